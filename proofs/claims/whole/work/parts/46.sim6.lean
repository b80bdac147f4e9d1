section S7
variable {Q : Int32 → pd_M → Prop} {K : Int32 → pd_M → Prop} {M : pd_M} {f2 : Int32} {n a : Nat}
theorem l_likesX (h60 : M.1 60 0 = nI n) (n20 : n ≤ 20) (ha : a < n) : ∀ (d i m : Nat), i + d = n → K (nI (m + cnt (fun t => ¬ t = a ∧ M.1 (62 + t) 3 = f2 ∧ M.1 (62 + a) 4 = M.1 (62 + t) 4 ∧ M.1 (62 + a) 2 = M.1 (62 + t) 2) i d)) M → lpX5_countLikes_5 K (nI a) f2 (d + 1) (nI m) (nI i) M
  | 0, i, m, hd, hK => by
    unfold lpX5_countLikes_5
    rw [h60, n_le (by omega) (by omega)]
    exact ⟨fun _ => hK, fun h => absurd (by omega) h⟩
  | d + 1, i, m, hd, hK => by
    unfold lpX5_countLikes_5
    rw [h60, n_le (by omega) (by omega), nI_eq (by omega) (by omega), q_cl (by omega)]
    have z : ¬ (¬ i = a ∧ M.1 (62 + i) 3 = f2 ∧ M.1 (62 + a) 4 = M.1 (62 + i) 4 ∧ M.1 (62 + a) 2 = M.1 (62 + i) 2) → lpX5_countLikes_5 K (nI a) f2 (d + 1) (nI m) (nI (i + 1)) M := fun ne => l_likesX h60 n20 ha d (i + 1) m (by omega) (by unfold cnt at hK; rw [if_neg ne, Nat.zero_add] at hK; exact hK)
    have hv : vp_in (nI i) 20 := vp_in_nI (by omega) (by decide)
    have hva : vp_in (nI a) 20 := vp_in_nI (by omega) (by decide)
    refine ⟨fun h => absurd h (by omega), fun _ => ⟨fun e x ex => ?_, fun ne => ⟨hv, fun n3 x ex => ?_, fun e3 => ?_⟩⟩⟩
    · rw [nI_1] at ex; subst ex; exact z (fun q => q.1 e)
    · rw [nI_1] at ex; subst ex; exact z (fun q => n3 q.2.1)
    · unfold wX5_isSameZoneAndHour
      rw [q_cl (by omega), q_cl (by omega)]
      refine ⟨hva, hv, fun n4 => q_z0 (fun x ex => ?_), fun e4 => ⟨hva, hv, fun n2 => q_z0 (fun x ex => ?_), fun e2 => q_z1 (fun x3 ex3 x ex => ?_)⟩⟩
      · rw [nI_1] at ex; subst ex; exact z (fun q => n4 q.2.2.1)
      · rw [nI_1] at ex; subst ex; exact z (fun q => n2 q.2.2.2)
      · rw [nI_1] at ex ex3; subst ex ex3
        have pp : (¬ i = a ∧ M.1 (62 + i) 3 = f2 ∧ M.1 (62 + a) 4 = M.1 (62 + i) 4 ∧ M.1 (62 + a) 2 = M.1 (62 + i) 2) := ⟨ne, e3, e4, e2⟩
        exact l_likesX h60 n20 ha d (i + 1) (m + 1) (by omega) (by unfold cnt at hK; rw [if_pos pp, ← Nat.add_assoc] at hK; exact hK)
theorem l_likesM (h82 : M.1 82 17 = nI n) (n20 : n ≤ 20) (ha : a < n) : ∀ (d i m : Nat), i + d = n → K (nI (m + cnt (fun t => ¬ t = a ∧ M.1 101 t = M.1 101 a ∧ M.1 99 t = M.1 99 a ∧ M.1 100 t = f2) i d)) M → lpX9_likes_5 K (nI a) f2 (d + 1) (nI m) (nI i) M
  | 0, i, m, hd, hK => by
    unfold lpX9_likes_5
    rw [h82, n_le (by omega) (by omega)]
    exact ⟨fun _ => hK, fun h => absurd (by omega) h⟩
  | d + 1, i, m, hd, hK => by
    unfold lpX9_likes_5
    rw [h82, n_le (by omega) (by omega), nI_eq (by omega) (by omega), q_cl (by omega), q_cl (by omega)]
    have z : ¬ (¬ i = a ∧ M.1 101 i = M.1 101 a ∧ M.1 99 i = M.1 99 a ∧ M.1 100 i = f2) → ∀ x3, x3 = nI m + 0 → ∀ x4, x4 = nI i + 1 → lpX9_likes_5 K (nI a) f2 (d + 1) x3 x4 M := fun ne x3 e3 x4 e4 => by
      rw [Int32.add_zero] at e3
      rw [nI_1] at e4
      subst e3 e4
      exact l_likesM h82 n20 ha d (i + 1) m (by omega) (by unfold cnt at hK; rw [if_neg ne, Nat.zero_add] at hK; exact hK)
    have hv : vp_in (nI i) 20 := vp_in_nI (by omega) (by decide)
    have hva : vp_in (nI a) 20 := vp_in_nI (by omega) (by decide)
    refine ⟨fun h => absurd h (by omega), fun _ => ⟨fun e => z (fun q => q.1 e), fun ne => ⟨hv, hva, fun n4 => z (fun q => n4 q.2.1), fun e4 => ⟨hv, hva, fun n2 => z (fun q => n2 q.2.2.1), fun e2 => ⟨hv, fun n3 => z (fun q => n3 q.2.2.2), fun e3 x3 ex3 x4 ex => ?_⟩⟩⟩⟩⟩
    rw [nI_1] at ex ex3; subst ex ex3
    have pp : (¬ i = a ∧ M.1 101 i = M.1 101 a ∧ M.1 99 i = M.1 99 a ∧ M.1 100 i = f2) := ⟨ne, e4, e2, e3⟩
    exact l_likesM h82 n20 ha d (i + 1) (m + 1) (by omega) (by unfold cnt at hK; rw [if_pos pp, ← Nat.add_assoc] at hK; exact hK)
/-- how many are like it -/
def lk (M : pd_M) (n a : Nat) (s : Int32) : Nat := cnt (fun t => ¬ t = a ∧ M.1 101 t = M.1 101 a ∧ M.1 99 t = M.1 99 a ∧ M.1 100 t = s) 0 n
theorem lk_le (M : pd_M) (n a : Nat) (s : Int32) : lk M n a s ≤ n := cnt_le _ n 0
theorem X5_countLikes_w (ht : I_t n M) (h60 : M.1 60 0 = nI n) (n20 : n ≤ 20) (ha : a < n) (hQ : Q (nI (lk M n a f2)) M) : wX5_countLikes Q (nI a) f2 M := by
  refine ⟨n + 1, l_likesX h60 n20 ha n 0 0 (by omega) ?_⟩
  rw [Nat.zero_add, cnt_congr _ (fun t => ¬ t = a ∧ M.1 101 t = M.1 101 a ∧ M.1 99 t = M.1 99 a ∧ M.1 100 t = f2) n 0 (fun j h1 h2 => ?_)]
  · exact hQ
  · obtain ⟨b0, b1, b2, b3, b4, b5⟩ := ht j (by omega) (by omega)
    obtain ⟨c0, c1, c2, c3, c4, c5⟩ := ht a (by omega) (by omega)
    show (¬ j = a ∧ M.1 (62 + j) 3 = f2 ∧ M.1 (62 + a) 4 = M.1 (62 + j) 4 ∧ M.1 (62 + a) 2 = M.1 (62 + j) 2) ↔ _
    rw [b3, b4, b2, c4, c2]
    exact ⟨fun ⟨q1, q2, q3, q4⟩ => ⟨q1, q3.symm, q4.symm, q2⟩, fun ⟨q1, q2, q3, q4⟩ => ⟨q1, q4, q2.symm, q3.symm⟩⟩
theorem X9_likes_w (h82 : M.1 82 17 = nI n) (n20 : n ≤ 20) (ha : a < n) (hQ : Q (nI (lk M n a f2)) M) : wX9_likes Q (nI a) f2 M := by
  refine ⟨n + 1, l_likesM h82 n20 ha n 0 0 (by omega) ?_⟩
  rw [Nat.zero_add]
  exact hQ
end S7
theorem sim_of (a1 a2 : Int32) : sim (fun Q M => wX8_of Q a1 a2 M) (fun Q M => wX9_of Q a1 a2 M) := by
  intro M K hI hK
  have hK0 := hK M hI
  obtain ⟨nS, nC, nT, hn, hf, hs, hsu, hc, hcu, ho, hr, ht, hx⟩ := hI
  obtain ⟨n5, n7, n20, h8, h82, h24, h826, h60, h8217⟩ := id hn
  show wX8_isNumbered _ _ _ _
  rw [h60]
  have goM : ∀ Q' : Int32 → pd_M → Prop, wX9_in Q' a1 0 (nI nT - 1) M → wX9_in Q' a1 0 (M.1 82 17 - 1) M := fun Q' h => by rw [h8217]; exact h
  refine q_num (by omega) (fun h => q_y0 ?_) (fun h1 => q_y1 ?_)
  · exact goM _ (r_num rfl (by omega) (fun _ => q_y0 (fin hK0)) (fun q => absurd q h))
  obtain ⟨t, htn, rfl⟩ := vp_in_of h1 (by omega)
  have hv : vp_in (nI t) 20 := vp_in_nI (by omega) (by decide)
  obtain ⟨b0, b1, b2, b3, b4, b5⟩ := ht t htn (by omega)
  have l1 := lk_le M nT t 1
  have l0 := lk_le M nT t 0
  refine q_upTo (n := 5) (by decide) (fun h2 => q_z0 ⟨fun e6 => ?_, fun n6 => ⟨fun e7 => ?_, fun n7 => ?_⟩⟩) (fun h2 => q_z1 ⟨hv, h2, ?_⟩)
  · -- by likes
    subst e6
    refine ⟨hv, ?_⟩
    rw [q_cl (by omega), show ((5 : Int32).toNatClampNeg) = 5 from rfl, b5]
    have pre : ∀ (r : Int32), ((jd (M.1 102 t) (M.1 100 t) = 2 → wX9_likes (fun r_5 M_4 => wX9_likes (fun r_7 M_6 => ((r_5 ≤ r_7 → ((r_7 ≤ r_5 → ((r = 2 → K M_6) ∧ (¬ r = 2 → False))) ∧ (¬ r_7 ≤ r_5 → ((r = 0 → K M_6) ∧ (¬ r = 0 → False))))) ∧ (¬ r_5 ≤ r_7 → ((r = 1 → K M_6) ∧ (¬ r = 1 → False))))) (nI t) 0 M_4) (nI t) 1 M) ∧ (¬ jd (M.1 102 t) (M.1 100 t) = 2 → r = jd (M.1 102 t) (M.1 100 t))) → wX9_of (fun r2 M2 => (r = r2 → K M2) ∧ (¬ r = r2 → False)) (nI t) 6 M := fun r h => goM _ (r_num rfl (by omega) (fun q => absurd h1 q) (fun _ => q_y1 (q_neg (by decide) (q_neg (by decide) (q_neg (by decide) (q_neg (by decide) (q_neg (by decide) (q_neg (by decide) (q_pos rfl (X9_judged_w (by omega) ⟨h.1, fun ne => X9_judged_w (by omega) (by rw [h.2 ne]; exact fin hK0)⟩))))))))))
    refine ⟨fun e2 => ?_, fun n2 => ⟨hv, pre _ ⟨fun q => absurd q n2, fun _ => rfl⟩⟩⟩
    refine X5_countLikes_w ht h60 n20 htn (X5_countLikes_w ht h60 n20 htn ?_)
    rw [nI_eq (by omega) (by omega), n_le (by omega) (by omega)]
    have po : ∀ (r : Int32), ((lk M nT t 1 = lk M nT t 0 → r = 2) ∧ (lk M nT t 1 < lk M nT t 0 → r = 0) ∧ (lk M nT t 0 < lk M nT t 1 → r = 1)) → wX9_of (fun r2 M2 => (r = r2 → K M2) ∧ (¬ r = r2 → False)) (nI t) 6 M := fun r ⟨p1, p2, p3⟩ => pre r ⟨fun _ => X9_likes_w h8217 n20 htn (X9_likes_w h8217 n20 htn (by
      rw [n_le (by omega) (by omega), n_le (by omega) (by omega)]
      refine ⟨fun q1 => ⟨fun q2 => ?_, fun q2 => ?_⟩, fun q1 => ?_⟩
      · rw [p1 (by omega)]; exact fin hK0
      · rw [p2 (by omega)]; exact fin hK0
      · rw [p3 (by omega)]; exact fin hK0)), fun ne => absurd e2 ne⟩
    exact ⟨fun ne => ⟨fun le => po 0 ⟨fun q => absurd q ne, fun _ => rfl, fun q => by omega⟩, fun nle => po 1 ⟨fun q => absurd q ne, fun q => by omega, fun _ => rfl⟩⟩, fun e => po 2 ⟨fun _ => rfl, fun q => by omega, fun q => by omega⟩⟩
  · subst e7
    refine X5_countLikes_w ht h60 n20 htn (X5_countLikes_w ht h60 n20 htn ?_)
    refine goM _ (r_num rfl (by omega) (fun q => absurd h1 q) (fun _ => q_y1 (q_neg (by decide) (q_neg (by decide) (q_neg (by decide) (q_neg (by decide) (q_neg (by decide) (q_neg (by decide) (q_neg (by decide) (q_pos rfl ?_))))))))))
    refine X9_likes_w h8217 n20 htn (X9_likes_w h8217 n20 htn ?_)
    rw [Int32.add_comm (nI (lk M nT t 0))]
    exact fin hK0
  · have hk : ∀ j, j < 6 → ¬ a2 = nI j := fun j hj e => h2 (by rw [e]; exact vp_in_nI hj (by decide))
    exact goM _ (r_num rfl (by omega) (fun q => absurd h1 q) (fun _ => q_y1 (q_neg (hk 0 (by omega)) (q_neg (hk 1 (by omega)) (q_neg (hk 2 (by omega)) (q_neg (hk 3 (by omega)) (q_neg (hk 4 (by omega)) (q_neg (hk 5 (by omega)) (q_neg n6 (q_neg n7 (fin hK0)))))))))))
  · obtain ⟨j, hj, rfl⟩ := vp_in_of h2 (by omega)
    rw [q_cl (by omega), q_cl (by omega)]
    refine goM _ (r_num rfl (by omega) (fun q => absurd h1 q) (fun _ => q_y1 ?_))
    rw [q_cl (by omega)]
    have ne : ∀ i, i < 6 → ¬ i = j → ¬ nI j = nI i := fun i hi hne e => hne (q_inj (by omega) (by omega) e).symm
    by_cases e0 : j = 0
    · subst e0; rw [b0]; exact q_pos rfl ⟨hv, fin hK0⟩
    refine q_neg (ne 0 (by omega) (by omega)) ?_
    by_cases e1 : j = 1
    · subst e1; rw [b1]; exact q_pos rfl ⟨hv, fin hK0⟩
    refine q_neg (ne 1 (by omega) (by omega)) ?_
    by_cases e2 : j = 2
    · subst e2; rw [b2]; exact q_pos rfl ⟨hv, fin hK0⟩
    refine q_neg (ne 2 (by omega) (by omega)) ?_
    by_cases e3 : j = 3
    · subst e3; rw [b3]; exact q_pos rfl ⟨hv, fin hK0⟩
    refine q_neg (ne 3 (by omega) (by omega)) ?_
    by_cases e4 : j = 4
    · subst e4; rw [b4]; exact q_pos rfl ⟨hv, fin hK0⟩
    refine q_neg (ne 4 (by omega) (by omega)) ?_
    obtain rfl : j = 5 := by omega
    rw [b5]
    exact q_pos rfl (X9_judged_w (by omega) (fin hK0))
theorem X5_countState_w {Q : Int32 → pd_M → Prop} {M : pd_M} {n : Nat} {s : Int32} (ht : I_t n M) (h60 : M.1 60 0 = nI n) (n20 : n ≤ 20) (hQ : Q (nI (cnt (fun t => jd (M.1 102 t) (M.1 100 t) = s) 0 n)) M) : wX5_countState Q s M := by
  refine ⟨n + 1, l_stateX h60 n20 n 0 0 (by omega) ?_⟩
  rw [Nat.zero_add, cnt_congr _ (fun t => jd (M.1 102 t) (M.1 100 t) = s) n 0 (fun j h1 h2 => ?_)]
  · exact hQ
  · show M.1 (62 + j) 5 = s ↔ _
    rw [(ht j (by omega) (by omega)).2.2.2.2.2]
theorem X9_ticketsThat_w {Q : Int32 → pd_M → Prop} {M : pd_M} {n : Nat} {s : Int32} (h82 : M.1 82 17 = nI n) (n20 : n ≤ 20) (hQ : Q (nI (cnt (fun t => jd (M.1 102 t) (M.1 100 t) = s) 0 n)) M) : wX9_ticketsThat Q s M := by
  refine ⟨n + 1, l_stateM h82 n20 n 0 0 (by omega) ?_⟩
  rw [Nat.zero_add]
  exact hQ
theorem sm_congr (f g : Nat → Int32) : ∀ (d i : Nat), (∀ j, i ≤ j → j < i + d → f j = g j) → sm f i d = sm g i d
  | 0, i, h => rfl
  | d + 1, i, h => by
    unfold sm
    rw [sm_congr f g d (i + 1) (fun j h1 h2 => h j (by omega) (by omega)), h i (by omega) (by omega)]
theorem lX4_bays {K : Int32 → pd_M → Prop} {M : pd_M} {n : Nat} (h8 : M.1 8 0 = nI n) (n5 : n ≤ 5) : ∀ (d i : Nat) (v : Int32), i + d = n → K (v + sm (fun s => M.1 10 s) i d) M → lpX4_countBays_4 K (d + 1) v (nI i) M
  | 0, i, v, hd, hK => by
    unfold lpX4_countBays_4
    rw [h8, n_le (by omega) (by omega)]
    exact ⟨fun _ => by unfold sm at hK; rw [Int32.add_zero] at hK; exact hK, fun h => absurd (by omega) h⟩
  | d + 1, i, v, hd, hK => by
    unfold lpX4_countBays_4
    rw [h8, n_le (by omega) (by omega), q_cl (by omega)]
    refine ⟨fun h => absurd h (by omega), fun _ => ⟨vp_in_nI (by omega) (by decide), fun x ex y ey => ?_⟩⟩
    rw [nI_1] at ey; subst ex ey
    exact lX4_bays h8 n5 d (i + 1) _ (by omega) (by unfold sm at hK; rw [← Int32.add_assoc] at hK; exact hK)
theorem lX9_bays {K : Int32 → pd_M → Prop} {M : pd_M} {n : Nat} (h8 : M.1 82 0 = nI n) (n5 : n ≤ 5) : ∀ (d i : Nat) (v : Int32), i + d = n → K (v + sm (fun s => M.1 84 s) i d) M → lpX9_allBays_4 K (d + 1) v (nI i) M
  | 0, i, v, hd, hK => by
    unfold lpX9_allBays_4
    rw [h8, n_le (by omega) (by omega)]
    exact ⟨fun _ => by unfold sm at hK; rw [Int32.add_zero] at hK; exact hK, fun h => absurd (by omega) h⟩
  | d + 1, i, v, hd, hK => by
    unfold lpX9_allBays_4
    rw [h8, n_le (by omega) (by omega), q_cl (by omega)]
    refine ⟨fun h => absurd h (by omega), fun _ => ⟨vp_in_nI (by omega) (by decide), fun x ex y ey => ?_⟩⟩
    rw [nI_1] at ey; subst ex ey
    exact lX9_bays h8 n5 d (i + 1) _ (by omega) (by unfold sm at hK; rw [← Int32.add_assoc] at hK; exact hK)
theorem lX9_cards {K : Int32 → pd_M → Prop} {M : pd_M} {n : Nat} (h8 : M.1 82 6 = nI n) (n7 : n ≤ 7) : ∀ (d i : Nat) (v : Int32), i + d = 4 * n → K (v + sm (fun s => M.1 90 s) i d) M → lpX9_allCards_4 K (d + 1) v (nI i) M
  | 0, i, v, hd, hK => by
    unfold lpX9_allCards_4
    rw [h8, show (4 : Int32) = nI 4 from rfl, pk_mul, n_le (by omega) (by omega)]
    exact ⟨fun _ => by unfold sm at hK; rw [Int32.add_zero] at hK; exact hK, fun h => absurd (by omega) h⟩
  | d + 1, i, v, hd, hK => by
    unfold lpX9_allCards_4
    rw [h8, show (4 : Int32) = nI 4 from rfl, pk_mul, n_le (by omega) (by omega), q_cl (by omega)]
    refine ⟨fun h => absurd h (by omega), fun _ => ⟨vp_in_nI (by omega) (by decide), fun x ex y ey => ?_⟩⟩
    rw [nI_1] at ey; subst ex ey
    exact lX9_cards h8 n7 d (i + 1) _ (by omega) (by unfold sm at hK; rw [← Int32.add_assoc] at hK; exact hK)
theorem lX0_cards14 {K : Int32 → pd_M → Prop} {M : pd_M} {c : Nat} (hc : c < 7) : ∀ (d i : Nat) (v : Int32), i + d = 4 → K (v + sm (fun s => M.1 (29 + c) s) i d) M → lpX0_countCards_14 K (nI c) (d + 1) v (nI i) M
  | 0, i, v, hd, hK => by
    unfold lpX0_countCards_14
    rw [show (4 : Int32) = nI 4 from rfl, n_le (by omega) (by omega)]
    exact ⟨fun _ => by unfold sm at hK; rw [Int32.add_zero] at hK; exact hK, fun h => absurd (by omega) h⟩
  | d + 1, i, v, hd, hK => by
    unfold lpX0_countCards_14
    rw [show (4 : Int32) = nI 4 from rfl, n_le (by omega) (by omega), q_cl (by omega), q_cl (by omega)]
    refine ⟨fun h => absurd h (by omega), fun _ => ⟨vp_in_nI (by omega) (by decide), vp_in_nI (by omega) (by decide), fun x ex y ey => ?_⟩⟩
    rw [nI_1] at ey; subst ex ey
    exact lX0_cards14 hc d (i + 1) _ (by omega) (by unfold sm at hK; rw [← Int32.add_assoc] at hK; exact hK)
theorem lX0_cards4 {K : Int32 → pd_M → Prop} {M : pd_M} {n : Nat} (h24 : M.1 24 1 = nI n) (n7 : n ≤ 7) : ∀ (d i : Nat) (v : Int32), i + d = n → K (v + sm (fun c => sm (fun s => M.1 (29 + c) s) 0 4) i d) M → lpX0_countCards_4 K (d + 1) v (nI i) M
  | 0, i, v, hd, hK => by
    unfold lpX0_countCards_4
    rw [h24, n_le (by omega) (by omega)]
    exact ⟨fun _ => by unfold sm at hK; rw [Int32.add_zero] at hK; exact hK, fun h => absurd (by omega) h⟩
  | d + 1, i, v, hd, hK => by
    unfold lpX0_countCards_4
    rw [h24, n_le (by omega) (by omega)]
    refine ⟨fun h => absurd h (by omega), fun _ => ⟨5, lX0_cards14 (by omega) 4 0 v (by omega) (fun y ey => ?_)⟩⟩
    rw [nI_1] at ey; subst ey
    exact lX0_cards4 h24 n7 d (i + 1) _ (by omega) (by rw [sm, ← Int32.add_assoc] at hK; exact hK)
theorem sm_4 (f : Nat → Int32) : ∀ (d i : Nat), sm f (4 * i) (4 * d) = sm (fun c => sm (fun z => f (4 * c + z)) 0 4) i d
  | 0, i => rfl
  | d + 1, i => by
    rw [show 4 * (d + 1) = 4 * d + 1 + 1 + 1 + 1 by omega]
    rw [sm, sm, sm, sm, show 4 * i + 1 + 1 + 1 + 1 = 4 * (i + 1) by omega, sm_4 f d (i + 1)]
    show _ = sm (fun z => f (4 * i + z)) 0 4 + _
    rw [sm, sm, sm, sm, sm, Int32.add_zero, Int32.add_assoc, Int32.add_assoc, Int32.add_assoc]
    rfl
theorem sim_many (a1 : Int32) : sim (fun Q M => wX8_many Q a1 M) (fun Q M => wX9_many Q a1 M) := by
  intro M K hI hK
  have hK0 := hK M hI
  obtain ⟨nS, nC, nT, hn, hf, hs, hsu, hc, hcu, ho, hr, ht, hx⟩ := hI
  obtain ⟨n5, n7, n20, h8, h82, h24, h826, h60, h8217⟩ := id hn
  refine ⟨fun e => ?_, fun n0 => ⟨fun e => ?_, fun n1 => ⟨fun e => ?_, fun n2 => ⟨fun e => ?_, fun n3 => ⟨fun e => ?_, fun n4 => ⟨fun e => ?_, fun n5' => ⟨fun e => ?_, fun n6 => ⟨fun e => ?_, fun n7' => ?_⟩⟩⟩⟩⟩⟩⟩⟩
  · subst e; refine q_pos rfl ?_; rw [h8, h82]; exact fin hK0
  · subst e; refine q_neg (by decide) (q_pos rfl ?_); rw [h24, h826]; exact fin hK0
  · subst e; refine q_neg (by decide) (q_neg (by decide) (q_pos rfl ?_)); rw [h60, h8217]; exact fin hK0
  · subst e; exact X5_countState_w ht h60 n20 (q_neg (by decide) (q_neg (by decide) (q_neg (by decide) (q_pos rfl (X9_ticketsThat_w h8217 n20 (fin hK0))))))
  · subst e; exact X5_countState_w ht h60 n20 (q_neg (by decide) (q_neg (by decide) (q_neg (by decide) (q_neg (by decide) (q_pos rfl (X9_ticketsThat_w h8217 n20 (fin hK0)))))))
  · subst e; exact X5_countState_w ht h60 n20 (q_neg (by decide) (q_neg (by decide) (q_neg (by decide) (q_neg (by decide) (q_neg (by decide) (q_pos rfl (X9_ticketsThat_w h8217 n20 (fin hK0))))))))
  · subst e
    refine ⟨nS + 1, lX4_bays h8 n5 nS 0 0 (by omega) (q_neg (by decide) (q_neg (by decide) (q_neg (by decide) (q_neg (by decide) (q_neg (by decide) (q_neg (by decide) (q_pos rfl ⟨nS + 1, lX9_bays h82 n5 nS 0 0 (by omega) ?_⟩)))))))⟩
    rw [sm_congr (fun s => M.1 84 s) (fun s => M.1 10 s) nS 0 (fun j h1 h2 => (hs j (by omega) (by omega)).2.1.1)]
    exact fin hK0
  · subst e
    refine ⟨nC + 1, lX0_cards4 h24 n7 nC 0 0 (by omega) (q_neg (by decide) (q_neg (by decide) (q_neg (by decide) (q_neg (by decide) (q_neg (by decide) (q_neg (by decide) (q_neg (by decide) (q_pos rfl ⟨4 * nC + 1, lX9_cards h826 n7 (4 * nC) 0 0 (by omega) ?_⟩))))))))⟩
    have e4 := sm_4 (fun s => M.1 90 s) nC 0
    rw [Nat.mul_zero] at e4
    rw [e4, sm_congr (fun c => sm (fun z => M.1 90 (4 * c + z)) 0 4) (fun c => sm (fun s => M.1 (29 + c) s) 0 4) nC 0 (fun j h1 h2 => sm_congr _ _ 4 0 (fun z h3 h4 => ((hc j (by omega) (by omega)).2.2.1 z (by omega)).1))]
    exact fin hK0
  · exact q_neg n0 (q_neg n1 (q_neg n2 (q_neg n3 (q_neg n4 (q_neg n5' (q_neg n6 (q_neg n7' (fin hK0))))))))
