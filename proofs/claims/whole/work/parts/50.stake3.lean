section S11
variable {M : pd_M} {G : Nat → Int} {n : Nat} {F : Int}
theorem l_thr {K : Int32 → Int32 → pd_M → Prop} {s : Nat} (hG : gOK G n F) (h8 : M.1 8 0 = nI n) (hg : ∀ j, j < n → M.1 23 j = zI (G j)) (hs : s < n) : ∀ (d i : Nat) (x c : Int), i + d = n → K (zI (x + sZ (fun j => if G j < G s then 0 else G j) i d)) (zI (c + sZ (fun j => if G j < G s then 0 else 1) i d)) M → lpX6_greatest_31 K (nI s) (d + 1) (zI x) (zI c) (nI i) M
  | 0, i, x, c, hd, hK => by
    have n5 := hG.1
    unfold lpX6_greatest_31
    rw [h8, n_le (by omega) (by omega)]
    unfold sZ at hK
    rw [Int.add_zero, Int.add_zero] at hK
    exact ⟨fun _ => hK, fun h => absurd (by omega) h⟩
  | d + 1, i, x, c, hd, hK => by
    have n5 := hG.1
    have g1 := hG.2.1 i (by omega)
    have g2 := hG.2.1 s hs
    have hv : vp_in (nI i) 5 := vp_in_nI (by omega) (by decide)
    unfold lpX6_greatest_31
    rw [h8, n_le (by omega) (by omega), q_cl (by omega), q_cl (by omega), hg i (by omega), hg s hs]
    unfold sZ at hK
    refine ⟨fun h => absurd h (by omega), fun _ => ⟨hv, vp_in_nI (by omega) (by decide), fun h y ey => ?_, fun h => ⟨hv, fun x3 e3 x4 e4 y ey => ?_⟩⟩⟩
    · rw [q_lt, z_toInt (by omega) (by omega), z_toInt (by omega) (by omega)] at h
      rw [nI_1] at ey; subst ey
      rw [if_pos h, if_pos h, Int.zero_add, Int.zero_add] at hK
      exact l_thr hG h8 hg hs d (i + 1) x c (by omega) hK
    · rw [q_lt, z_toInt (by omega) (by omega), z_toInt (by omega) (by omega)] at h
      rw [nI_1] at ey
      rw [z_add] at e3
      rw [show (1 : Int32) = zI 1 from rfl, z_add] at e4
      subst ey e3 e4
      rw [if_neg h, if_neg h, ← Int.add_assoc, ← Int.add_assoc] at hK
      exact l_thr hG h8 hg hs d (i + 1) _ _ (by omega) hK
theorem l_great {Q : Int32 → Int32 → pd_M → Prop} (hG : gOK G n F) (h8 : M.1 8 0 = nI n) (hg : ∀ j, j < n → M.1 23 j = zI (G j)) (hF : M.1 59 1 = zI F) (hQ : ∀ u w, dOK G n F n u w → Q (nI u) (nI w) M) : ∀ (d s u w : Nat), s + d = n → dOK G n F s u w → lpX6_greatest_12 Q (d + 1) (nI u) (nI w) (nI s) M
  | 0, s, u, w, hd, hok => by
    have n5 := hG.1
    unfold lpX6_greatest_12
    rw [h8, n_le (by omega) (by omega)]
    obtain rfl : s = n := by omega
    exact ⟨fun _ => hQ u w hok, fun h => absurd (by omega) h⟩
  | d + 1, s, u, w, hd, hok => by
    have n5 := hG.1
    have f1 := hG.2.2
    obtain ⟨d1, d2, d3, d4, d5, d6⟩ := id hok
    have c2 := tC_bd hG s
    have x2 := tX_bd hG s
    unfold lpX6_greatest_12
    rw [h8, n_le (by omega) (by omega)]
    refine ⟨fun h => absurd h (by omega), fun _ => ⟨n + 1, ?_⟩⟩
    refine l_thr (s := s) hG h8 hg (by omega) n 0 0 0 (by omega) ?_
    rw [Int.zero_add, Int.zero_add, hF]
    show wX3_isBelow _ _ _ (zI (tX G n s) - zI F) (zI (tC G n s)) M
    rw [z_sub]
    have b1 := mul_bd (a := tX G n s - F) (b := w) (A := 500) (B := 5) (by omega) (by omega) (by omega) (by omega) (by omega)
    have b2 := mul_bd (a := u) (b := tC G n s) (A := 495) (B := 5) (by omega) (by omega) (by omega) (by omega) (by omega)
    unfold wX3_isBelow
    rw [z_n w, z_n u, z_mul, z_mul, z_le (by omega) (by omega) (by omega) (by omega), ← z_n w, ← z_n u]
    refine ⟨fun h => q_z0 (fun y ey => ?_), fun h => q_z1 ?_⟩
    · rw [nI_1] at ey; subst ey
      refine l_great hG h8 hg hF hQ d (s + 1) u w (by omega) ⟨d1, d2, d3, d4, d5, fun t ht => ?_⟩
      by_cases e : t = s
      · subst e; exact h
      · exact d6 t (by omega)
    · obtain ⟨a, b, a0, b0, a1, b1, ea, eb, hok'⟩ := d_step hG (by omega) hok (by omega)
      show wX3_init _ (zI (tX G n s) - M.1 59 1) (zI (tC G n s)) M
      rw [hF, z_sub, ea, eb, ← z_n, ← z_n]
      refine X3_init_pos a0 b0 (by omega) (by omega) (fun y ey => ?_)
      rw [nI_1] at ey; subst ey
      exact l_great hG h8 hg hF hQ d (s + 1) _ _ (by omega) hok'
theorem X6_greatest_w {Q : Int32 → Int32 → pd_M → Prop} (hG : gOK G n F) (h8 : M.1 8 0 = nI n) (hg : ∀ j, j < n → M.1 23 j = zI (G j)) (hF : M.1 59 1 = zI F) (hQ : ∀ u w, dOK G n F n u w → Q (nI u) (nI w) M) : wX6_greatest Q M := by
  have n5 := hG.1
  refine X3_init_non (by decide) ⟨n + 1, by omega, ?_⟩
  exact l_great hG h8 hg hF hQ n 0 0 1 (by omega) ⟨by omega, by omega, by omega, by decide, Or.inl ⟨rfl, rfl⟩, fun t ht => by omega⟩
theorem bit_of : ∀ m, m < 32 → ∀ i, i < 5 → ((nI m >>> (nI i &&& 31)) &&& 1) = nI (m / 2 ^ i % 2) := by decide +kernel
theorem l_mask {K : Int32 → Int32 → pd_M → Prop} {m : Nat} (hG : gOK G n F) (h82 : M.1 82 0 = nI n) (hg : ∀ j, j < n → M.1 87 j = zI (G j)) (hm : m < 32) : ∀ (d i : Nat) (x c : Int), i + d = n → K (zI (x + sZ (fun j => bi m j * G j) i d)) (zI (c + sZ (fun j => bi m j) i d)) M → lpX9_findStake_33 K (nI m) (d + 1) (zI x) (zI c) (nI i) M
  | 0, i, x, c, hd, hK => by
    have n5 := hG.1
    unfold lpX9_findStake_33
    rw [h82, n_le (by omega) (by omega)]
    unfold sZ at hK
    rw [Int.add_zero, Int.add_zero] at hK
    exact ⟨fun _ => hK, fun h => absurd (by omega) h⟩
  | d + 1, i, x, c, hd, hK => by
    have n5 := hG.1
    have hv : vp_in (nI i) 5 := vp_in_nI (by omega) (by decide)
    unfold lpX9_findStake_33
    rw [h82, n_le (by omega) (by omega), q_cl (by omega), hg i (by omega), bit_of m hm i (by omega)]
    unfold sZ at hK
    refine ⟨fun h => absurd h (by omega), fun _ => ⟨fun h x2 e2 x3 e3 y ey => ?_, fun h => ⟨hv, fun x2 e2 x3 e3 y ey => ?_⟩⟩⟩
    · have hb : m / 2 ^ i % 2 = 0 := by
        by_cases q : m / 2 ^ i % 2 = 1
        · rw [q] at h; exact absurd rfl h
        · omega
      rw [Int32.add_zero] at e2
      rw [hb, show nI 0 = (0 : Int32) from rfl, Int32.add_zero] at e3
      rw [nI_1] at ey
      subst ey e2 e3
      have hb' : bi m i = 0 := by unfold bi; rw [hb]; rfl
      rw [hb', Int.zero_mul, Int.zero_add, Int.zero_add] at hK
      exact l_mask hG h82 hg hm d (i + 1) x c (by omega) hK
    · have hb : m / 2 ^ i % 2 = 1 := q_inj (b := 1) (by omega) (by omega) h
      rw [z_add] at e2
      rw [hb, show nI 1 = zI 1 from rfl, z_add] at e3
      rw [nI_1] at ey
      subst ey e2 e3
      have hb' : bi m i = 1 := by unfold bi; rw [hb]; rfl
      rw [hb', Int.one_mul, ← Int.add_assoc, ← Int.add_assoc] at hK
      exact l_mask hG h82 hg hm d (i + 1) _ _ (by omega) hK
theorem shl_of : ∀ n, n < 6 → ((1 : Int32) <<< (nI n &&& 31)) = nI (2 ^ n) := by decide +kernel
theorem two_le : ∀ n, n < 6 → 2 ^ n ≤ 32 := by decide
theorem l_stake {K : pd_M → Prop} (hG : gOK G n F) : ∀ (d m : Nat) (A B : Int) (M : pd_M), M.1 82 0 = nI n → (∀ j, j < n → M.1 87 j = zI (G j)) → M.1 82 16 = zI F → M.1 82 28 = zI A → M.1 82 29 = zI B → 1 ≤ m → m + d = 2 ^ n → mOK G n F m A B → (∀ M' A B, frm (fun k i => k = 82 ∧ (i = 28 ∨ i = 29)) M M' → M'.1 82 28 = zI A → M'.1 82 29 = zI B → mOK G n F (2 ^ n) A B → K M') → lpX9_findStake_12 K (d + 1) (nI m) M
  | 0, m, A, B, M, h82, hg, hF, hA, hB, h1m, hd, hok, hK => by
    have n5 := hG.1
    have n32 := two_le n (by omega)
    unfold lpX9_findStake_12
    rw [h82, shl_of n (by omega), n_le (by omega) (by omega)]
    obtain rfl : m = 2 ^ n := by omega
    exact ⟨fun _ => hK M A B frm_rf hA hB hok, fun h => absurd (by omega) h⟩
  | d + 1, m, A, B, M, h82, hg, hF, hA, hB, h1m, hd, hok, hK => by
    have n5 := hG.1
    have n32 := two_le n (by omega)
    have f1 := hG.2.2
    obtain ⟨m1, m2, m3, m4, m5, m6⟩ := id hok
    have c2 := mC_bd hG m
    have x2 := mX_bd hG m
    have b1 := mul_bd (a := mX G n m - F) (b := B) (A := 500) (B := 5) (by omega) (by omega) (by omega) (by omega) (by omega)
    have b2 := mul_bd (a := A) (b := mC n m) (A := 495) (B := 5) (by omega) (by omega) (by omega) (by omega) (by omega)
    unfold lpX9_findStake_12
    rw [h82, shl_of n (by omega), n_le (by omega) (by omega)]
    refine ⟨fun h => absurd h (by omega), fun _ x ex => ⟨n + 1, ?_⟩⟩
    rw [hF, z_neg] at ex
    subst ex
    rw [show (0 : Int32) = zI 0 from rfl]
    refine l_mask hG h82 hg (by omega) n 0 (-F) 0 (by omega) ?_
    rw [Int.zero_add, hA, hB, z_mul, z_mul]
    have ex : -F + sZ (fun j => bi m j * G j) 0 n = mX G n m - F := by unfold mX; omega
    rw [ex]
    show (zI ((mX G n m - F) * B) ≤ zI (A * mC n m) → _) ∧ (¬ zI ((mX G n m - F) * B) ≤ zI (A * mC n m) → _)
    rw [z_le (by omega) (by omega) (by omega) (by omega)]
    refine ⟨fun h y ey => ?_, fun h M1 e1 M2 e2 y ey => ?_⟩
    · rw [nI_1] at ey; subst ey
      refine l_stake hG d (m + 1) A B M h82 hg hF hA hB (by omega) (by omega) ⟨m1, m2, m3, m4, m5, fun k k1 k2 => ?_⟩ hK
      by_cases e : k = m
      · subst e; exact h
      · exact m6 k k1 (by omega)
    · rw [nI_1] at ey; subst ey e1 e2
      refine l_stake hG d (m + 1) (mX G n m - F) (mC n m) _ ?_ (fun j hj => ?_) ?_ ?_ ?_ (by omega) (by omega) (m_step hG h1m (by omega) hok (by omega)) (fun M' A' B' hf => hK M' A' B' (frm_sI (frm_sI hf (by omega)) (by omega)))
      · rw [sI_ni (by omega), sI_ni (by omega)]; exact h82
      · rw [sI_ni (by omega), sI_ni (by omega)]; exact hg j hj
      · rw [sI_ni (by omega), sI_ni (by omega)]; exact hF
      · rw [sI_ni (by omega), sI_hit]
      · rw [sI_hit]; rfl
theorem X9_findStake_w {Q : pd_M → Prop} (hG : gOK G n F) (h82 : M.1 82 0 = nI n) (hg : ∀ j, j < n → M.1 87 j = zI (G j)) (hF : M.1 82 16 = zI F) (hQ : ∀ M' A B, frm (fun k i => k = 82 ∧ (i = 28 ∨ i = 29)) M M' → M'.1 82 28 = zI A → M'.1 82 29 = zI B → mOK G n F (2 ^ n) A B → Q M') : wX9_findStake Q M := by
  intro M1 e1 M2 e2
  subst e1 e2
  have n32 := Nat.two_pow_pos n
  refine ⟨2 ^ n - 1 + 1, l_stake hG (2 ^ n - 1) 1 0 1 _ ?_ (fun j hj => ?_) ?_ ?_ ?_ (by omega) (by omega) ⟨by omega, by omega, by omega, by omega, Or.inl ⟨rfl, rfl⟩, fun k k1 k2 => by omega⟩ (fun M' A' B' hf => hQ M' A' B' (frm_sI (frm_sI hf (by omega)) (by omega)))⟩
  · rw [sI_ni (by omega), sI_ni (by omega)]; exact h82
  · rw [sI_ni (by omega), sI_ni (by omega)]; exact hg j hj
  · rw [sI_ni (by omega), sI_ni (by omega)]; exact hF
  · rw [sI_ni (by omega), sI_hit]; rfl
  · rw [sI_hit]; rfl
end S11
theorem inv_82 {nS nC nT : Nat} {M M' : pd_M} (hI : InvB nS nC nT M) (ro : ∀ k i, ¬ (k = 82 ∧ 28 ≤ i) → M'.1 k i = M.1 k i) : Inv M' := by
  obtain ⟨hn, hf, hs, hsu, hc, hcu, ho, hr, ht, hx⟩ := hI
  exact ⟨nS, nC, nT, hn.fr (ro 8 0 (by omega)) (ro 24 1 (by omega)) (ro 60 0 (by omega)) (fun i _ => ro 82 i (by omega)), hf.fr (ro 59 1 (by omega)) (ro 82 16 (by omega)), hs.fr (fun k i q => ro k i (by unfold P_s at q; omega)), hsu.fr (fun k i q => ro k i (by unfold P_su at q; omega)), hc.fr (fun k i q => ro k i (by unfold P_c at q; omega)), hcu.fr (fun k i q => ro k i (by unfold P_cu at q; omega)), ho.fr (fun k i q => ro k i (by unfold P_o at q; omega)), hr.fr (fun k i q => ro k i (by unfold P_r at q; omega)), ht.fr (fun k i q => ro k i (by unfold P_t at q; omega)), hx.fr (fun k i q => ro k i (by unfold P_x at q; omega))⟩
theorem gOK_of {nS nC nT : Nat} {M : pd_M} (hI : InvB nS nC nT M) : gOK (fun j => (M.1 23 j).toInt) nS (M.1 59 1).toInt := by
  obtain ⟨hn, hf, hs, -⟩ := hI
  refine ⟨hn.1, fun j hj => ?_, hf.2.1, ?_⟩
  · have := q_in.mp (hs j hj (by have := hn.1; omega)).2.2.2.2.2
    show 0 ≤ (M.1 23 j).toInt ∧ (M.1 23 j).toInt ≤ 99
    omega
  · have := q_in.mp hf.1
    omega
theorem sim_stake (a1 : Int32) : sim (fun Q M => wX8_stake Q a1 M) (fun Q M => wX9_stake Q a1 M) := by
  intro M K hI hK
  have hK0 := hK M hI
  obtain ⟨nS, nC, nT, hI⟩ := hI
  obtain ⟨hn, hf, hs, -⟩ := id hI
  obtain ⟨n5, n7, n20, h8, h82, h24, h826, h60, h8217⟩ := id hn
  have hG := gOK_of hI
  refine q_upTo (n := 1) (by decide) (fun h => q_z0 ?_) (fun h1 => q_z1 ?_)
  · exact r_upTo (n := 1) rfl (by decide) (fun _ => q_y0 (fin hK0)) (fun q => absurd q h)
  refine X6_greatest_w hG h8 (fun j hj => z_of _) (z_of _) (fun u w hd => ?_)
  have model : ∀ r : Int32, (∀ A B : Int, 0 ≤ A → A ≤ 495 → 1 ≤ B → B ≤ 5 → (u : Int) * B = A * w → ∀ M', Inv M' → wX9_part (fun r2 M2 => (r = r2 → K M2) ∧ (¬ r = r2 → False)) (zI A) (zI B) a1 M') → wX9_stake (fun r2 M2 => (r = r2 → K M2) ∧ (¬ r = r2 → False)) a1 M := fun r hp =>
    r_upTo (n := 1) rfl (by decide) (fun q => absurd h1 q) (fun _ => q_y1 (X9_findStake_w hG h82 (fun j hj => (hs j hj (by omega)).2.2.2.2.1.trans (z_of _)) (hf.2.2.trans (z_of _)) (fun M' A B fm eA eB hm => by
      have heq := dm_eq hG hd hm
      obtain ⟨m1, m2, m3, m4, -⟩ := hm
      rw [eA, eB]
      exact hp A B m1 m2 m3 m4 heq M' (inv_82 hI (fun k i q => fm k i (by omega))))))
  obtain ⟨d1, d2, d3, d4, -⟩ := hd
  -- the cleared parts
  have parts : ∀ A B : Int, 0 ≤ A → A ≤ 495 → 1 ≤ B → B ≤ 5 → (u : Int) * B = A * w → (A = 0 ∧ u = 0 ∧ w = 1) ∨ (0 < A ∧ u = A.toNat / Nat.gcd A.toNat B.toNat ∧ w = B.toNat / Nat.gcd A.toNat B.toNat) := by
    intro A B a0 a1 b0 b1 e
    obtain ⟨a, rfl⟩ : ∃ a : Nat, A = a := ⟨A.toNat, by omega⟩
    obtain ⟨b, rfl⟩ : ∃ b : Nat, B = b := ⟨B.toNat, by omega⟩
    have en : u * b = a * w := by
      have : ((u * b : Nat) : Int) = ((a * w : Nat) : Int) := by push_cast; exact e
      omega
    by_cases hu : u = 0
    · left
      rw [hu, Nat.gcd_zero_left] at d4
      rw [hu, d4, Nat.zero_mul, Nat.mul_one] at en
      exact ⟨by omega, hu, d4⟩
    · right
      have ha : 0 < a := by
        by_cases q : a = 0
        · rw [q, Nat.zero_mul] at en
          have := Nat.mul_pos (show 0 < u by omega) (show 0 < b by omega)
          omega
        · omega
      rcases red_one (by omega) d4 en with r | r
      · exact ⟨by omega, r⟩
      · omega
  have hpart : ∀ (r : Int32), (a1 = 0 → r = nI u) → (¬ a1 = 0 → r = nI w) → ∀ A B : Int, 0 ≤ A → A ≤ 495 → 1 ≤ B → B ≤ 5 → (u : Int) * B = A * w → ∀ M', Inv M' → wX9_part (fun r2 M2 => (r = r2 → K M2) ∧ (¬ r = r2 → False)) (zI A) (zI B) a1 M' := by
    intro r r0 r1 A B a0 a1' b0 b1 e M' hI'
    rcases parts A B a0 a1' b0 b1 e with ⟨z1, z2, z3⟩ | ⟨p1, p2, p3⟩
    · refine X9_part_non (by rw [z1]; decide) ?_
      by_cases q : a1 = 0
      · rw [r0 q, z2, q]; exact fin (hK M' hI')
      · have : a1 = nI 1 := by
          obtain ⟨j, hj, rfl⟩ := vp_in_of h1 (by omega)
          have : j ≠ 0 := fun e => q (by rw [e]; rfl)
          rw [show j = 1 by omega]
        rw [r1 q, z3, this]; exact fin (hK M' hI')
    · rw [z_nn a0, z_nn (by omega : 0 ≤ B)]
      refine X9_part_pos (by omega) (by omega) (by omega) (fun q => ?_) (fun q => ?_)
      · rw [← p2, r0 q]; exact fin (hK M' hI')
      · rw [← p3, r1 q]; exact fin (hK M' hI')
  exact ⟨fun ne => model _ (hpart _ (fun q => absurd q ne) (fun _ => rfl)), fun e => model _ (hpart _ (fun _ => rfl) (fun q => absurd e q))⟩
theorem sim_turn (a1 a2 : Int32) : sim (fun Q M => wX8_turn Q a1 a2 M) (fun Q M => wX9_turn Q a1 a2 M) := by
  intro M K hI hK
  have hK0 := hK M hI
  obtain ⟨nS, nC, nT, hI⟩ := hI
  obtain ⟨hn, hf, hs, -⟩ := id hI
  obtain ⟨n5, n7, n20, h8, h82, h24, h826, h60, h8217⟩ := id hn
  have hG := gOK_of hI
  refine q_isStreet h8 n5 (fun h => q_z0 ?_) (fun h0 => q_z1 ?_)
  · exact r_isStreet h82 n5 (fun _ => q_z0 (fin hK0)) (fun q => absurd q h)
  refine q_upTo (n := 1) (by decide) (fun h => q_y0 ?_) (fun h1 => q_y1 ?_)
  · exact r_isStreet h82 n5 (fun q => absurd h0 q) (fun _ => q_z1 (r_upTo (n := 1) rfl (by decide) (fun _ => q_y0 (fin hK0)) (fun q => absurd q h)))
  obtain ⟨s, hsn, rfl⟩ := vp_in_of h0 (by omega)
  have v5 : vp_in (nI s) 5 := vp_in_nI (by omega) (by decide)
  refine X6_greatest_w hG h8 (fun j hj => z_of _) (z_of _) (fun u w hd => ⟨v5, ?_⟩)
  rw [q_cl (by omega)]
  obtain ⟨-, hgr, f0, f5⟩ := id hG
  have gr := hgr s hsn
  have gr' : 0 ≤ (M.1 23 s).toInt ∧ (M.1 23 s).toInt ≤ 99 := gr
  obtain ⟨d1, d2, d3, d4, -⟩ := id hd
  generalize eg : (M.1 23 s).toInt = g at gr'
  generalize ef : (M.1 59 1).toInt = f at f0 f5
  have e23 : M.1 23 s = zI g := by rw [← eg]; exact z_of _
  have e59 : M.1 59 1 = zI f := by rw [← ef]; exact z_of _
  rw [e23, e59, z_n u, z_n w, z_mul, z_mul, z_sub]
  have model : ∀ r : Int32, (∀ A B : Int, 0 ≤ A → A ≤ 495 → 1 ≤ B → B ≤ 5 → (u : Int) * B = A * w → ∀ M', Inv M' → wX9_part (fun r2 M2 => (r = r2 → K M2) ∧ (¬ r = r2 → False)) (zI (g * B - A)) (zI (B * f)) a2 M') → wX9_turn (fun r2 M2 => (r = r2 → K M2) ∧ (¬ r = r2 → False)) (nI s) a2 M := fun r hp =>
    r_isStreet h82 n5 (fun q => absurd h0 q) (fun _ => q_z1 (r_upTo (n := 1) rfl (by decide) (fun q => absurd h1 q) (fun _ => q_y1 (X9_findStake_w hG h82 (fun j hj => (hs j hj (by omega)).2.2.2.2.1.trans (z_of _)) (hf.2.2.trans (z_of _)) (fun M' A B fm eA eB hm => by
      have heq := dm_eq hG hd hm
      obtain ⟨m1, m2, m3, m4, -⟩ := hm
      refine ⟨v5, ?_⟩
      rw [eA, eB, q_cl (by omega), fm 87 s (by omega), fm 82 16 (by omega), (hs s hsn (by omega)).2.2.2.2.1, hf.2.2, e23, e59, z_mul, z_mul, z_sub]
      exact hp A B m1 m2 m3 m4 heq M' (inv_82 hI (fun k i q => fm k i (by omega))))))))
  have bw := mul_bd (a := g) (b := w) (A := 99) (B := 5) (by omega) (by omega) (by omega) (by omega) (by omega)
  have bwf := mul_bd (a := w) (b := f) (A := 5) (B := 500) (by omega) (by omega) (by omega) (by omega) (by omega)
  have pwf : 0 < (w : Int) * f := Int.mul_pos (by omega) (by omega)
  have sign : ∀ A B : Int, (u : Int) * B = A * w → (g * w - u) * B = (g * B - A) * w := fun A B e => by
    rw [Int.sub_mul, Int.sub_mul, e, Int.mul_assoc, Int.mul_comm (w : Int) B, ← Int.mul_assoc]
  by_cases hp : 0 < g * w - u
  · obtain ⟨p, ep⟩ : ∃ p : Nat, g * w - u = p := ⟨(g * w - u).toNat, by omega⟩
    obtain ⟨q, eq⟩ : ∃ q : Nat, (w : Int) * f = q := ⟨((w : Int) * f).toNat, by omega⟩
    rw [ep, eq, ← z_n, ← z_n]
    refine X3_init_pos (by omega) (by omega) (by omega) (by omega) ?_
    have hpart : ∀ (r : Int32), (a2 = 0 → r = nI (p / Nat.gcd p q)) → (¬ a2 = 0 → r = nI (q / Nat.gcd p q)) → ∀ A B : Int, 0 ≤ A → A ≤ 495 → 1 ≤ B → B ≤ 5 → (u : Int) * B = A * w → ∀ M', Inv M' → wX9_part (fun r2 M2 => (r = r2 → K M2) ∧ (¬ r = r2 → False)) (zI (g * B - A)) (zI (B * f)) a2 M' := by
      intro r r0 r1 A B a0 a1' b0 b1 e M' hI'
      have sg := sign A B e
      rw [ep] at sg
      have hpB : 0 < (p : Int) * B := Int.mul_pos (by omega) (by omega)
      have hP : 0 < g * B - A := by
        by_cases q0 : 0 < g * B - A
        · exact q0
        · have := Int.mul_nonneg (show 0 ≤ -(g * B - A) by omega) (show (0 : Int) ≤ (w : Int) by omega)
          rw [Int.neg_mul] at this
          omega
      have hR : 0 < B * f := Int.mul_pos (by omega) (by omega)
      have b3 := mul_bd (a := g) (b := B) (A := 99) (B := 5) (by omega) (by omega) (by omega) (by omega) (by omega)
      have b4 := mul_bd (a := B) (b := f) (A := 5) (B := 500) (by omega) (by omega) (by omega) (by omega) (by omega)
      obtain ⟨P, eP⟩ : ∃ P : Nat, g * B - A = P := ⟨(g * B - A).toNat, by omega⟩
      obtain ⟨R, eR⟩ : ∃ R : Nat, B * f = R := ⟨(B * f).toNat, by omega⟩
      have cross : p * R = P * q := by
        have : ((p * R : Nat) : Int) = ((P * q : Nat) : Int) := by
          push_cast
          rw [← eR, ← eq, ← Int.mul_assoc, sg, eP, Int.mul_assoc]
        omega
      obtain ⟨x1, x2⟩ := red_eq (by omega) (by omega) (by omega) cross
      rw [eP, eR, ← z_n, ← z_n]
      refine X9_part_pos (by omega) (by omega) (by omega) (fun h => ?_) (fun h => ?_)
      · rw [← x1, r0 h]; exact fin (hK M' hI')
      · rw [← x2, r1 h]; exact fin (hK M' hI')
    exact ⟨fun ne => model _ (hpart _ (fun q => absurd q ne) (fun _ => rfl)), fun e => model _ (hpart _ (fun _ => rfl) (fun q => absurd e q))⟩
  · refine X3_init_non ?_ ?_
    · rw [show (0 : Int32) = zI 0 from rfl, z_le (by omega) (by omega) (by omega) (by omega)]; omega
    have hpart : ∀ (r : Int32), r = a2 → ∀ A B : Int, 0 ≤ A → A ≤ 495 → 1 ≤ B → B ≤ 5 → (u : Int) * B = A * w → ∀ M', Inv M' → wX9_part (fun r2 M2 => (r = r2 → K M2) ∧ (¬ r = r2 → False)) (zI (g * B - A)) (zI (B * f)) a2 M' := by
      intro r hr A B a0 a1' b0 b1 e M' hI'
      have sg := sign A B e
      have b3 := mul_bd (a := g) (b := B) (A := 99) (B := 5) (by omega) (by omega) (by omega) (by omega) (by omega)
      have hP : ¬ 0 < g * B - A := fun q0 => by
        have h1 := Int.mul_pos q0 (show (0 : Int) < (w : Int) by omega)
        have h2 := Int.mul_nonneg (show 0 ≤ -(g * w - u) by omega) (show (0 : Int) ≤ B by omega)
        rw [Int.neg_mul] at h2
        omega
      refine X9_part_non (fun q => hP ?_) (by rw [hr]; exact fin (hK M' hI'))
      rw [q_lt, z_toInt (by omega) (by omega)] at q
      exact q
    refine ⟨fun ne => model _ (hpart _ ?_), fun e => model _ (hpart _ e.symm)⟩
    obtain ⟨j, hj, rfl⟩ := vp_in_of h1 (by omega)
    have : j ≠ 0 := fun e => ne (by rw [e]; rfl)
    rw [show j = 1 by omega]
    rfl
