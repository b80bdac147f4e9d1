section S8
variable {Q : Int32 → pd_M → Prop} {M : pd_M} {a1 a2 a3 a4 a5 a6 : Int32} {n : Nat}
theorem X5_add_w (h60 : M.1 60 0 = nI n) (n20 : n ≤ 20) (full : n = 20 → Q (-2) M) (ok : ∀ M', n < 20 → frm (fun k j => (k = 62 + n ∧ j < 6) ∨ (k = 60 ∧ j = 0)) M M' → M'.1 (62 + n) 0 = a1 → M'.1 (62 + n) 1 = a2 → M'.1 (62 + n) 2 = a3 → M'.1 (62 + n) 3 = a4 → M'.1 (62 + n) 4 = a5 → M'.1 (62 + n) 5 = a6 → M'.1 60 0 = nI (n + 1) → Q (nI n) M') : wX5_add Q a1 a2 a3 a4 a5 a6 M := by
  unfold wX5_add
  rw [h60, show (20 : Int32) = nI 20 from rfl, n_lt (by omega) (by decide), q_cl (by omega)]
  refine ⟨fun h => ?_, fun h => full (by omega)⟩
  have hv : vp_in (nI n) 20 := vp_in_nI h (by decide)
  refine ⟨hv, fun M1 e1 => ?_⟩
  have g1 : M1.1 60 0 = nI n := by rw [e1, sI_ni (by omega)]; exact h60
  rw [g1, q_cl (by omega)]
  refine ⟨hv, fun M2 e2 => ?_⟩
  have g2 : M2.1 60 0 = nI n := by rw [e2, sI_ni (by omega)]; exact g1
  rw [g2, q_cl (by omega)]
  refine ⟨hv, fun M3 e3 => ?_⟩
  have g3 : M3.1 60 0 = nI n := by rw [e3, sI_ni (by omega)]; exact g2
  rw [g3, q_cl (by omega)]
  refine ⟨hv, fun M4 e4 => ?_⟩
  have g4 : M4.1 60 0 = nI n := by rw [e4, sI_ni (by omega)]; exact g3
  rw [g4, q_cl (by omega)]
  refine ⟨hv, fun M5 e5 => ?_⟩
  have g5 : M5.1 60 0 = nI n := by rw [e5, sI_ni (by omega)]; exact g4
  rw [g5, q_cl (by omega)]
  refine ⟨hv, fun M6 e6 M7 e7 => ?_⟩
  have g6 : M6.1 60 0 = nI n := by rw [e6, sI_ni (by omega)]; exact g5
  rw [g6, nI_1] at e7
  have g7 : M7.1 60 0 = nI (n + 1) := by rw [e7, sI_hit]
  rw [g7, nI_pred]
  rw [show (0 : Int32).toNatClampNeg = 0 from rfl] at e1
  rw [show (1 : Int32).toNatClampNeg = 1 from rfl] at e2
  rw [show (2 : Int32).toNatClampNeg = 2 from rfl] at e3
  rw [show (3 : Int32).toNatClampNeg = 3 from rfl] at e4
  rw [show (4 : Int32).toNatClampNeg = 4 from rfl] at e5
  rw [show (5 : Int32).toNatClampNeg = 5 from rfl] at e6
  refine ok M7 h (fun k j q => ?_) ?_ ?_ ?_ ?_ ?_ ?_ g7
  · rw [e7, sI_ni (by omega), e6, sI_ni (by omega), e5, sI_ni (by omega), e4, sI_ni (by omega), e3, sI_ni (by omega), e2, sI_ni (by omega), e1, sI_ni (by omega)]
  · rw [e7, sI_ni (by omega), e6, sI_ni (by omega), e5, sI_ni (by omega), e4, sI_ni (by omega), e3, sI_ni (by omega), e2, sI_ni (by omega), e1, sI_hit]
  · rw [e7, sI_ni (by omega), e6, sI_ni (by omega), e5, sI_ni (by omega), e4, sI_ni (by omega), e3, sI_ni (by omega), e2, sI_hit]
  · rw [e7, sI_ni (by omega), e6, sI_ni (by omega), e5, sI_ni (by omega), e4, sI_ni (by omega), e3, sI_hit]
  · rw [e7, sI_ni (by omega), e6, sI_ni (by omega), e5, sI_ni (by omega), e4, sI_hit]
  · rw [e7, sI_ni (by omega), e6, sI_ni (by omega), e5, sI_hit]
  · rw [e7, sI_ni (by omega), e6, sI_hit]
theorem X5_judge_w {r s : Int32} (hr : r = 0 ∨ r = 1 ∨ r = 2) (hQ : Q (jd r s) M) : wX5_judge Q r s M := by
  unfold jd at hQ
  have h0 : ¬ r = 0 → 0 < r := fun ne => by rcases hr with rfl | rfl | rfl <;> first | exact absurd rfl ne | decide
  have h1 : r = 0 → ¬ 0 < r := fun e => by rw [e]; decide
  refine ⟨fun ne => ?_, fun e => ⟨fun ns => ⟨fun n1 => ?_, fun e1 => ?_⟩, fun es => ?_⟩⟩
  · rw [if_pos (Or.inl (h0 ne))] at hQ; exact hQ
  · rw [if_neg (fun q => q.elim (h1 e) ns), if_neg n1] at hQ; exact hQ
  · rw [if_neg (fun q => q.elim (h1 e) ns), if_pos e1] at hQ; exact hQ
  · rw [if_pos (Or.inr es)] at hQ; exact hQ
theorem rgt_is {f : Prop} {k r : Int32} (h : rgt f k r) : r = 0 ∨ r = 1 ∨ r = 2 := by
  rcases Classical.em f with hf | hf
  · exact Or.inr (Or.inr (h.1 hf))
  · rcases Classical.em (k ≤ 0) with hk | hk
    · exact Or.inl (h.2.1 hf hk)
    · exact Or.inr (Or.inl (h.2.2 hf hk))
theorem fM_fr {M M' : pd_M} {c z h : Nat} (fr : ∀ k i, k = 89 ∨ (93 ≤ k ∧ k ≤ 96) → M'.1 k i = M.1 k i) : fM M' c z h ↔ fM M c z h := by
  unfold fM
  rw [fr 93 z (by omega), fr 94 z (by omega)]
  refine or_congr Iff.rfl ⟨fun ⟨t, h1, h2, h3⟩ => ⟨t, h1, ?_, ?_⟩, fun ⟨t, h1, h2, h3⟩ => ⟨t, h1, ?_, ?_⟩⟩
  · rw [← fr 89 _ (by omega)]; exact h2
  · rw [← fr 95 _ (by omega), ← fr 96 _ (by omega)]; exact h3
  · rw [fr 89 _ (by omega)]; exact h2
  · rw [fr 95 _ (by omega), fr 96 _ (by omega)]; exact h3
end S8
theorem sim_ticket (a1 a2 a3 a4 : Int32) : sim (fun Q M => wX8_ticket Q a1 a2 a3 a4 M) (fun Q M => wX9_ticket Q a1 a2 a3 a4 M) := by
  intro M K hI hK
  have hK0 := hK M hI
  obtain ⟨nS, nC, nT, hn, hf, hs, hsu, hc, hcu, ho, hr, ht, hx⟩ := hI
  obtain ⟨n5, n7, n20, h8, h82, h24, h826, h60, h8217⟩ := id hn
  have no : ¬ (vp_in a1 nC ∧ vp_in a2 nS ∧ vp_in a3 24 ∧ vp_in a4 3) → wX9_ticket (fun r2 M2 => ((-1 : Int32) = r2 → K M2) ∧ (¬ (-1 : Int32) = r2 → False)) a1 a2 a3 a4 M := fun h =>
    r_isCar h826 n7 (fun _ => q_z0 (fin hK0)) (fun q1 => q_z1 (r_isStreet h82 n5 (fun _ => q_z0 (fin hK0)) (fun q2 => q_z1 (r_isHour (fun _ => q_z0 (fin hK0)) (fun q3 => q_z1 (r_in (n := 3) rfl (fun _ => q_y0 (fin hK0)) (fun q4 => absurd ⟨q1, q2, q3, q4⟩ h)))))))
  refine q_isCar h24 n7 (fun h => q_z0 (no (fun q => h q.1))) (fun h1 => q_z1 ?_)
  refine q_isStreet h8 n5 (fun h => q_z0 (no (fun q => h q.2.1))) (fun h2 => q_z1 ?_)
  refine q_isHour (fun h => q_z0 (no (fun q => h q.2.2.1))) (fun h3 => q_z1 ?_)
  refine q_num (n := 3) (by decide) (fun h => q_y0 (no (fun q => h q.2.2.2))) (fun h4 => q_y1 ⟨q_mono h2 n5, ?_⟩)
  have yes : ∀ (Q' : Int32 → pd_M → Prop) (M' : pd_M), M'.1 82 0 = nI nS → M'.1 82 6 = nI nC → M'.1 82 17 = nI nT → _ → wX9_ticket Q' a1 a2 a3 a4 M' := fun Q' M' e1 e2 e3 h => r_isCar e2 n7 (fun q => absurd h1 q) (fun q1 => q_z1 (r_isStreet e1 n5 (fun q => absurd h2 q) (fun q2 => q_z1 (r_isHour (fun q => absurd h3 q) (fun q3 => q_z1 (r_in (n := 3) rfl (fun q => absurd h4 q) (fun q4 => q_y1 h)))))))
  obtain ⟨c, hcn, rfl⟩ := vp_in_of h1 (by omega)
  obtain ⟨s, hsn, rfl⟩ := vp_in_of h2 (by omega)
  obtain ⟨y, hy, rfl⟩ := vp_in_of h3 (by omega)
  obtain ⟨⟨e83, v9⟩, -⟩ := hs s hsn (by omega)
  obtain ⟨e9, l9⟩ := q_of v9 (by decide)
  intro x ex
  rw [q_cl (by omega), e9] at ex
  subst ex
  refine X0_right_w (by omega) l9 (fun r hr1 => X5_judge_w (rgt_is hr1) ?_)
  have v5 : vp_in (nI s) 5 := vp_in_nI (by omega) (by decide)
  refine X5_add_w h60 n20 (fun e20 => ?_) (fun M1 hlt f1 w0 w1 w2 w3 w4 w5 w60 => ?_)
  · refine yes _ M h82 h826 h8217 ?_
    rw [h8217, show (20 : Int32) = nI 20 from rfl, nI_eq (by omega) (by omega)]
    exact ⟨fun ne => absurd e20 ne, fun _ => fin hK0⟩
  · have r1 : ∀ k i, ¬ (62 ≤ k ∧ k < 82) → k ≠ 60 → M1.1 k i = M.1 k i := fun k i q1 q2 => f1 k i (by omega)
    have hv : vp_in (nI nT) 20 := vp_in_nI hlt (by decide)
    refine yes _ M1 (by rw [r1 82 0 (by omega) (by omega)]; exact h82) (by rw [r1 82 6 (by omega) (by omega)]; exact h826) (by rw [r1 82 17 (by omega) (by omega)]; exact h8217) ?_
    have g1 : M1.1 82 17 = nI nT := by rw [r1 82 17 (by omega) (by omega)]; exact h8217
    rw [g1, show (20 : Int32) = nI 20 from rfl, nI_eq (by omega) (by omega), q_cl (by omega)]
    refine ⟨fun _ => ⟨hv, fun M2 e2 => ?_⟩, fun e => absurd e (by omega)⟩
    have g2 : M2.1 82 17 = nI nT := by rw [e2, sI_ni (by omega)]; exact g1
    rw [g2, q_cl (by omega)]
    refine ⟨hv, fun M3 e3 => ?_⟩
    have g3 : M3.1 82 17 = nI nT := by rw [e3, sI_ni (by omega)]; exact g2
    rw [g3, q_cl (by omega)]
    refine ⟨hv, fun M4 e4 => ?_⟩
    have g4 : M4.1 82 17 = nI nT := by rw [e4, sI_ni (by omega)]; exact g3
    rw [g4, q_cl (by omega)]
    refine ⟨hv, fun M5 e5 => ?_⟩
    have g5 : M5.1 82 17 = nI nT := by rw [e5, sI_ni (by omega)]; exact g4
    have z5 : M5.1 83 s = M.1 9 s := by rw [e5, sI_ni (by omega), e4, sI_ni (by omega), e3, sI_ni (by omega), e2, sI_ni (by omega), r1 83 s (by omega) (by omega)]; exact e83
    rw [g5, q_cl (by omega), q_cl (by omega)]
    refine ⟨v5, hv, fun M6 e6 => ⟨v5, ?_⟩⟩
    have g6 : M6.1 82 17 = nI nT := by rw [e6, sI_ni (by omega)]; exact g5
    have z6 : M6.1 83 s = M.1 9 s := by rw [e6, sI_ni (by omega)]; exact z5
    rw [z6, e9]
    refine X9_mayIn_w (by omega) l9 (fun r2 hr2 => ?_)
    have ro : ∀ k i, ¬ (62 ≤ k ∧ k < 82) → k ≠ 60 → ¬ (97 ≤ k ∧ k ≤ 101) → M6.1 k i = M.1 k i := fun k i q1 q2 q3 => by
      rw [e6, sI_ni (by omega), e5, sI_ni (by omega), e4, sI_ni (by omega), e3, sI_ni (by omega), e2, sI_ni (by omega), r1 k i q1 q2]
    rw [ro 90 _ (by omega) (by omega) (by omega), ((hc c hcn (by omega)).2.2.1 _ l9).1] at hr2
    have er : r = r2 := rgt_one hr1 hr2 ((fX_fM hc hr hcn n7 l9 hy).trans (fM_fr (fun k i q => ro k i (by omega) (by omega) (by omega))).symm)
    subst er
    rw [g6, q_cl (by omega)]
    refine ⟨hv, fun M7 e7 M8 e8 => ?_⟩
    have g7 : M7.1 82 17 = nI nT := by rw [e7, sI_ni (by omega)]; exact g6
    rw [g7, nI_1] at e8
    have g8 : M8.1 82 17 = nI (nT + 1) := by rw [e8, sI_hit]
    rw [g8, nI_pred]
    have rr : ∀ k i, ¬ (62 ≤ k ∧ k < 82) → k ≠ 60 → ¬ (97 ≤ k ∧ k ≤ 102) → ¬ (k = 82 ∧ i = 17) → M8.1 k i = M.1 k i := fun k i q1 q2 q3 q4 => by
      rw [e8, sI_ni (by omega), e7, sI_ni (by omega), ro k i q1 q2 (by omega)]
    have rx : ∀ k i, k < 82 → M8.1 k i = M1.1 k i := fun k i q => by
      rw [e8, sI_ni (by omega), e7, sI_ni (by omega), e6, sI_ni (by omega), e5, sI_ni (by omega), e4, sI_ni (by omega), e3, sI_ni (by omega), e2, sI_ni (by omega)]
    refine fin (hK M8 ⟨nS, nC, nT + 1, ⟨n5, n7, by omega, by rw [rr 8 0 (by omega) (by omega) (by omega) (by omega)]; exact h8, by rw [rr 82 0 (by omega) (by omega) (by omega) (by omega)]; exact h82, by rw [rr 24 1 (by omega) (by omega) (by omega) (by omega)]; exact h24, by rw [rr 82 6 (by omega) (by omega) (by omega) (by omega)]; exact h826, by rw [rx 60 0 (by omega)]; exact w60, g8⟩, hf.fr (rr 59 1 (by omega) (by omega) (by omega) (by omega)) (rr 82 16 (by omega) (by omega) (by omega) (by omega)), hs.fr (fun k i q => by unfold P_s at q; exact rr k i (by omega) (by omega) (by omega) (by omega)), hsu.fr (fun k i q => by unfold P_su at q; exact rr k i (by omega) (by omega) (by omega) (by omega)), hc.fr (fun k i q => by unfold P_c at q; exact rr k i (by omega) (by omega) (by omega) (by omega)), hcu.fr (fun k i q => by unfold P_cu at q; exact rr k i (by omega) (by omega) (by omega) (by omega)), ho.fr (fun k i q => by unfold P_o at q; exact rr k i (by omega) (by omega) (by omega) (by omega)), hr.fr (fun k i q => by unfold P_r at q; exact rr k i (by omega) (by omega) (by omega) (by omega)), fun t htn t20 => ?_, hx.fr (fun k i q => by unfold P_x at q; exact rr k i (by omega) (by omega) (by omega) (by omega))⟩)
    rw [rx _ 0 (by omega), rx _ 1 (by omega), rx _ 2 (by omega), rx _ 3 (by omega), rx _ 4 (by omega), rx _ 5 (by omega)]
    by_cases e : t = nT
    · subst e
      have u97 : M8.1 97 t = nI c := by rw [e8, sI_ni (by omega), e7, sI_ni (by omega), e6, sI_ni (by omega), e5, sI_ni (by omega), e4, sI_ni (by omega), e3, sI_ni (by omega), e2, sI_hit]
      have u98 : M8.1 98 t = nI s := by rw [e8, sI_ni (by omega), e7, sI_ni (by omega), e6, sI_ni (by omega), e5, sI_ni (by omega), e4, sI_ni (by omega), e3, sI_hit]
      have u99 : M8.1 99 t = nI y := by rw [e8, sI_ni (by omega), e7, sI_ni (by omega), e6, sI_ni (by omega), e5, sI_ni (by omega), e4, sI_hit]
      have u100 : M8.1 100 t = a4 := by rw [e8, sI_ni (by omega), e7, sI_ni (by omega), e6, sI_ni (by omega), e5, sI_hit]
      have u101 : M8.1 101 t = M.1 9 s := by rw [e8, sI_ni (by omega), e7, sI_ni (by omega), e6, sI_hit]; exact z5
      have u102 : M8.1 102 t = r := by rw [e8, sI_ni (by omega), e7, sI_hit]
      rw [u97, u98, u99, u100, u101, u102, w0, w1, w2, w3, w4, w5]
      exact ⟨rfl, rfl, rfl, rfl, e9.symm, rfl⟩
    · have f8 : ∀ k, 97 ≤ k ∧ k ≤ 102 → M8.1 k t = M.1 k t := fun k q => by
        rw [e8, sI_ni (by omega), e7, sI_ni (by omega), e6, sI_ni (by omega), e5, sI_ni (by omega), e4, sI_ni (by omega), e3, sI_ni (by omega), e2, sI_ni (by omega), r1 k t (by omega) (by omega)]
      have f9 : ∀ j, M1.1 (62 + t) j = M.1 (62 + t) j := fun j => f1 (62 + t) j (by omega)
      rw [f9, f9, f9, f9, f9, f9, f8 97 (by omega), f8 98 (by omega), f8 99 (by omega), f8 100 (by omega), f8 101 (by omega), f8 102 (by omega)]
      exact ht t (by omega) t20
