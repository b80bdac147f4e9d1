def sim (wx wm : (Int32 → pd_M → Prop) → pd_M → Prop) : Prop := ∀ (M : pd_M) (K : pd_M → Prop), Inv M → (∀ M', Inv M' → K M') → wx (fun r M1 => wm (fun r2 M2 => (r = r2 → K M2) ∧ (¬ r = r2 → False)) M1) M
theorem fin {r : Int32} {A : Prop} (h : A) : (r = r → A) ∧ (¬ r = r → False) := ⟨fun _ => h, fun n => absurd rfl n⟩
theorem q_c5 {x y : Nat} (hx : x < 5) (hy : y < 5) : (5 * nI x + nI y) = nI (5 * x + y) := by
  rw [show (5 : Int32) = nI 5 from rfl, pk_mul, nI_add]
theorem q_c7 {x y : Nat} : (7 * nI x + nI y) = nI (7 * x + y) := by
  rw [show (7 : Int32) = nI 7 from rfl, pk_mul, nI_add]
theorem q_c4 {x y : Nat} : (4 * nI x + nI y) = nI (4 * x + y) := by
  rw [show (4 : Int32) = nI 4 from rfl, pk_mul, nI_add]
theorem q_c3 {x y : Nat} : (3 * nI x + nI y) = nI (3 * x + y) := by
  rw [show (3 : Int32) = nI 3 from rfl, pk_mul, nI_add]
theorem sI_hit (M : pd_M) (k i : Nat) (v : Int32) : (sI M k i v).1 k i = v := by rw [sI_at, if_pos ⟨rfl, rfl⟩]
theorem sI_ni {M : pd_M} {k i k' i' : Nat} {v : Int32} (h : ¬ (k' = k ∧ i' = i)) : (sI M k i v).1 k' i' = M.1 k' i' := by rw [sI_at, if_neg h]
section SW
variable {Q : Int32 → pd_M → Prop} {M : pd_M} {a1 a2 a3 : Int32} {n m : Nat}
theorem X8_move_w (hs : M.1 8 0 = nI n) (hn : n ≤ 5) (no : ¬ (vp_in a1 n ∧ vp_in a2 4) → Q (-1) M) (ok : vp_in a1 n → vp_in a2 4 → Q (M.1 9 a1.toNatClampNeg) (sI M 9 a1.toNatClampNeg a2)) : wX8_move Q a1 a2 M := by
  refine q_isStreet hs hn (fun h => q_z0 (no (fun q => h q.1))) (fun h1 => q_z1 ?_)
  refine q_isZone (fun h => q_y0 (no (fun q => h q.2))) (fun h2 => q_y1 ?_)
  exact ⟨q_mono h1 hn, fun x ex => ⟨q_mono h1 hn, fun M1 e1 => by subst ex e1; exact ok h1 h2⟩⟩
theorem X9_move_w (hs : M.1 82 0 = nI n) (hn : n ≤ 5) (no : ¬ (vp_in a1 n ∧ vp_in a2 4) → Q (-1) M) (ok : vp_in a1 n → vp_in a2 4 → Q (M.1 83 a1.toNatClampNeg) (sI M 83 a1.toNatClampNeg a2)) : wX9_move Q a1 a2 M := by
  refine r_isStreet hs hn (fun h => q_z0 (no (fun q => h q.1))) (fun h1 => q_z1 ?_)
  refine r_isZone (fun h => q_y0 (no (fun q => h q.2))) (fun h2 => q_y1 ?_)
  exact ⟨q_mono h1 hn, fun x ex => ⟨q_mono h1 hn, fun M1 e1 => by subst ex e1; exact ok h1 h2⟩⟩
theorem X8_walk_w (hs : M.1 8 0 = nI n) (hn : n ≤ 5) (no : ¬ (vp_in a1 n ∧ vp_in a2 n ∧ ¬ a1 = a2 ∧ vp_in a3 51) → Q (-1) M) (ok : vp_in a1 n → vp_in a2 n → ¬ a1 = a2 → vp_in a3 51 → Q (M.1 (18 + a1.toNatClampNeg) a2.toNatClampNeg) (sI (sI M (18 + a1.toNatClampNeg) a2.toNatClampNeg a3) (18 + a2.toNatClampNeg) a1.toNatClampNeg a3)) : wX8_walk Q a1 a2 a3 M := by
  refine q_isStreet hs hn (fun h => q_z0 (no (fun q => h q.1))) (fun h1 => q_z1 ?_)
  refine q_isStreet hs hn (fun h => q_z0 (no (fun q => h q.2.1))) (fun h2 => q_z1 ?_)
  refine ⟨fun e => no (fun q => q.2.2.1 e), fun h3 => ?_⟩
  refine q_upTo (n := 50) (by decide) (fun h => q_y0 (no (fun q => h q.2.2.2))) (fun h4 => q_y1 ?_)
  exact ⟨q_mono h1 hn, q_mono h2 hn, fun x ex => ⟨q_mono h1 hn, q_mono h2 hn, fun M1 e1 => ⟨q_mono h2 hn, q_mono h1 hn, fun M2 e2 => by subst ex e1 e2; exact ok h1 h2 h3 h4⟩⟩⟩
theorem X9_walk_w (hs : M.1 82 0 = nI n) (hn : n ≤ 5) (no : ¬ (vp_in a1 n ∧ vp_in a2 n ∧ ¬ a1 = a2 ∧ vp_in a3 51) → Q (-1) M) (ok : vp_in a1 n → vp_in a2 n → ¬ a1 = a2 → vp_in a3 51 → Q (M.1 86 (5 * a1.toNatClampNeg + a2.toNatClampNeg)) (sI (sI M 86 (5 * a1.toNatClampNeg + a2.toNatClampNeg) a3) 86 (5 * a2.toNatClampNeg + a1.toNatClampNeg) a3)) : wX9_walk Q a1 a2 a3 M := by
  refine r_isStreet hs hn (fun h => q_z0 (no (fun q => h q.1))) (fun h1 => q_z1 ?_)
  refine r_isStreet hs hn (fun h => q_z0 (no (fun q => h q.2.1))) (fun h2 => q_z1 ?_)
  refine ⟨fun e => no (fun q => q.2.2.1 e), fun h3 => ?_⟩
  refine r_upTo (n := 50) rfl (by decide) (fun h => q_y0 (no (fun q => h q.2.2.2))) (fun h4 => q_y1 ?_)
  have ok' := ok h1 h2 h3 h4
  obtain ⟨x, hx, rfl⟩ := vp_in_of h1 (by omega)
  obtain ⟨y, hy, rfl⟩ := vp_in_of h2 (by omega)
  rw [q_c5 (by omega) (by omega), q_c5 (by omega) (by omega), q_cl (by omega), q_cl (by omega)]
  rw [q_cl (by omega), q_cl (by omega)] at ok'
  have i1 : vp_in (nI (5 * x + y)) 25 := vp_in_nI (by omega) (by decide)
  have i2 : vp_in (nI (5 * y + x)) 25 := vp_in_nI (by omega) (by decide)
  exact ⟨i1, fun x ex => ⟨i1, fun M1 e1 => ⟨i2, fun M2 e2 => by subst ex e1 e2; exact ok'⟩⟩⟩
theorem X8_close_w {b : Nat} (hs : M.1 8 0 = nI n) (hn : n ≤ 5) (hb : ∀ s, s < n → vp_in (M.1 10 s) 6) (no : ¬ (vp_in a1 n ∧ vp_in a2 7 ∧ vp_in a3 ((M.1 10 a1.toNatClampNeg).toNatClampNeg + 1)) → Q (-1) M) (ok : vp_in a1 n → vp_in a2 7 → vp_in a3 ((M.1 10 a1.toNatClampNeg).toNatClampNeg + 1) → Q (M.1 (12 + a1.toNatClampNeg) a2.toNatClampNeg) (sI M (12 + a1.toNatClampNeg) a2.toNatClampNeg a3)) : wX8_close Q a1 a2 a3 M := by
  refine q_isStreet hs hn (fun h => q_z0 (no (fun q => h q.1))) (fun h1 => q_z1 ?_)
  refine q_isNight (fun h => q_z0 (no (fun q => h q.2.1))) (fun h2 => q_z1 ⟨q_mono h1 hn, ?_⟩)
  obtain ⟨e1, l1⟩ := q_of h1 (by omega)
  obtain ⟨e2, l2⟩ := q_of (hb _ l1) (by decide)
  have goal : wX8_isUpTo (fun r_9 M_8 => ((¬ r_9 = 0 → (vp_in a1 5 ∧ (vp_in a2 7 ∧ ∀ x4_13 : Int32, x4_13 = (M_8.1 (12 + a1.toNatClampNeg) a2.toNatClampNeg) → (vp_in a1 5 ∧ (vp_in a2 7 ∧ ∀ M_16 : pd_M, M_16 = sI M_8 (12 + a1.toNatClampNeg) a2.toNatClampNeg a3 → Q x4_13 M_16))))) ∧ (r_9 = 0 → Q (-1) M_8))) a3 (nI (M.1 10 a1.toNatClampNeg).toNatClampNeg) M := by
    refine q_upTo (by omega) (fun h => q_y0 (no (fun q => h q.2.2))) (fun h4 => q_y1 ?_)
    exact ⟨q_mono h1 hn, h2, fun x ex => ⟨q_mono h1 hn, h2, fun M1 e1 => by subst ex e1; exact ok h1 h2 h4⟩⟩
  rw [← e2] at goal
  exact goal
theorem X9_close_w (hs : M.1 82 0 = nI n) (hn : n ≤ 5) (hb : ∀ s, s < n → vp_in (M.1 84 s) 6) (no : ¬ (vp_in a1 n ∧ vp_in a2 7 ∧ vp_in a3 ((M.1 84 a1.toNatClampNeg).toNatClampNeg + 1)) → Q (-1) M) (ok : vp_in a1 n → vp_in a2 7 → vp_in a3 ((M.1 84 a1.toNatClampNeg).toNatClampNeg + 1) → Q (M.1 85 (7 * a1.toNatClampNeg + a2.toNatClampNeg)) (sI M 85 (7 * a1.toNatClampNeg + a2.toNatClampNeg) a3)) : wX9_close Q a1 a2 a3 M := by
  refine r_isStreet hs hn (fun h => q_z0 (no (fun q => h q.1))) (fun h1 => q_z1 ?_)
  refine r_isNight (fun h => q_z0 (no (fun q => h q.2.1))) (fun h2 => q_z1 ⟨q_mono h1 hn, ?_⟩)
  obtain ⟨e1, l1⟩ := q_of h1 (by omega)
  obtain ⟨e2, l2⟩ := q_of (hb _ l1) (by decide)
  refine r_upTo e2 (by omega) (fun h => q_y0 (no (fun q => h q.2.2))) (fun h4 => q_y1 ?_)
  have ok' := ok h1 h2 h4
  clear e2 l2 h4 no ok e1 l1
  obtain ⟨x, hx, rfl⟩ := vp_in_of h1 (by omega)
  obtain ⟨y, hy, rfl⟩ := vp_in_of h2 (by omega)
  rw [q_c7, q_cl (by omega)]
  rw [q_cl (by omega), q_cl (by omega)] at ok'
  have i1 : vp_in (nI (7 * x + y)) 35 := vp_in_nI (by omega) (by decide)
  exact ⟨i1, fun x ex => ⟨i1, fun M1 e1 => by subst ex e1; exact ok'⟩⟩
theorem X8_limit_w (hs : M.1 24 1 = nI n) (hn : n ≤ 7) (no : ¬ (vp_in a1 n ∧ vp_in a2 100) → Q (-1) M) (ok : vp_in a1 n → vp_in a2 100 → Q (M.1 26 a1.toNatClampNeg) (sI M 26 a1.toNatClampNeg a2)) : wX8_limit Q a1 a2 M := by
  refine q_isCar hs hn (fun h => q_z0 (no (fun q => h q.1))) (fun h1 => q_z1 ?_)
  refine q_upTo (n := 99) (by decide) (fun h => q_y0 (no (fun q => h q.2))) (fun h2 => q_y1 ?_)
  exact ⟨q_mono h1 hn, fun x ex => ⟨q_mono h1 hn, fun M1 e1 => by subst ex e1; exact ok h1 h2⟩⟩
theorem X9_limit_w (hs : M.1 82 6 = nI n) (hn : n ≤ 7) (no : ¬ (vp_in a1 n ∧ vp_in a2 100) → Q (-1) M) (ok : vp_in a1 n → vp_in a2 100 → Q (M.1 91 a1.toNatClampNeg) (sI M 91 a1.toNatClampNeg a2)) : wX9_limit Q a1 a2 M := by
  refine r_isCar hs hn (fun h => q_z0 (no (fun q => h q.1))) (fun h1 => q_z1 ?_)
  refine r_upTo (n := 99) rfl (by decide) (fun h => q_y0 (no (fun q => h q.2))) (fun h2 => q_y1 ?_)
  exact ⟨q_mono h1 hn, fun x ex => ⟨q_mono h1 hn, fun M1 e1 => by subst ex e1; exact ok h1 h2⟩⟩
theorem X8_gain_w (hs : M.1 8 0 = nI n) (hn : n ≤ 5) (no : ¬ (vp_in a1 n ∧ vp_in a2 100) → Q (-1) M) (ok : vp_in a1 n → vp_in a2 100 → Q (M.1 23 a1.toNatClampNeg) (sI M 23 a1.toNatClampNeg a2)) : wX8_gain Q a1 a2 M := by
  refine q_isStreet hs hn (fun h => q_z0 (no (fun q => h q.1))) (fun h1 => q_z1 ?_)
  refine q_upTo (n := 99) (by decide) (fun h => q_y0 (no (fun q => h q.2))) (fun h2 => q_y1 ?_)
  exact ⟨q_mono h1 hn, fun x ex => ⟨q_mono h1 hn, fun M1 e1 => by subst ex e1; exact ok h1 h2⟩⟩
theorem X9_gain_w (hs : M.1 82 0 = nI n) (hn : n ≤ 5) (no : ¬ (vp_in a1 n ∧ vp_in a2 100) → Q (-1) M) (ok : vp_in a1 n → vp_in a2 100 → Q (M.1 87 a1.toNatClampNeg) (sI M 87 a1.toNatClampNeg a2)) : wX9_gain Q a1 a2 M := by
  refine r_isStreet hs hn (fun h => q_z0 (no (fun q => h q.1))) (fun h1 => q_z1 ?_)
  refine r_upTo (n := 99) rfl (by decide) (fun h => q_y0 (no (fun q => h q.2))) (fun h2 => q_y1 ?_)
  exact ⟨q_mono h1 hn, fun x ex => ⟨q_mono h1 hn, fun M1 e1 => by subst ex e1; exact ok h1 h2⟩⟩
theorem X8_cards_w (hs : M.1 24 1 = nI n) (hn : n ≤ 7) (no : ¬ (vp_in a1 n ∧ vp_in a2 4 ∧ vp_in a3 10) → Q (-1) M) (ok : vp_in a1 n → vp_in a2 4 → vp_in a3 10 → Q (M.1 (29 + a1.toNatClampNeg) a2.toNatClampNeg) (sI M (29 + a1.toNatClampNeg) a2.toNatClampNeg a3)) : wX8_cards Q a1 a2 a3 M := by
  refine q_isCar hs hn (fun h => q_z0 (no (fun q => h q.1))) (fun h1 => q_z1 ?_)
  refine q_isZone (fun h => q_z0 (no (fun q => h q.2.1))) (fun h2 => q_z1 ?_)
  refine q_upTo (n := 9) (by decide) (fun h => q_y0 (no (fun q => h q.2.2))) (fun h4 => q_y1 ?_)
  exact ⟨q_mono h1 hn, h2, fun x ex => ⟨q_mono h1 hn, h2, fun M1 e1 => by subst ex e1; exact ok h1 h2 h4⟩⟩
theorem X9_cards_w (hs : M.1 82 6 = nI n) (hn : n ≤ 7) (no : ¬ (vp_in a1 n ∧ vp_in a2 4 ∧ vp_in a3 10) → Q (-1) M) (ok : vp_in a1 n → vp_in a2 4 → vp_in a3 10 → Q (M.1 90 (4 * a1.toNatClampNeg + a2.toNatClampNeg)) (sI M 90 (4 * a1.toNatClampNeg + a2.toNatClampNeg) a3)) : wX9_cards Q a1 a2 a3 M := by
  refine r_isCar hs hn (fun h => q_z0 (no (fun q => h q.1))) (fun h1 => q_z1 ?_)
  refine r_isZone (fun h => q_z0 (no (fun q => h q.2.1))) (fun h2 => q_z1 ?_)
  refine r_upTo (n := 9) rfl (by decide) (fun h => q_y0 (no (fun q => h q.2.2))) (fun h4 => q_y1 ?_)
  have ok' := ok h1 h2 h4
  obtain ⟨x, hx, rfl⟩ := vp_in_of h1 (by omega)
  obtain ⟨y, hy, rfl⟩ := vp_in_of h2 (by omega)
  rw [q_c4, q_cl (by omega)]
  rw [q_cl (by omega), q_cl (by omega)] at ok'
  have i1 : vp_in (nI (4 * x + y)) 28 := vp_in_nI (by omega) (by decide)
  exact ⟨i1, fun x ex => ⟨i1, fun M1 e1 => by subst ex e1; exact ok'⟩⟩
theorem X8_fine_w (no : ¬ (1 ≤ a1.toInt ∧ a1.toInt ≤ 500) → Q (-1) M) (ok : 1 ≤ a1.toInt → a1.toInt ≤ 500 → Q (M.1 59 1) (sI M 59 1 a1)) : wX8_fine Q a1 M := by
  have e1 : (1 : Int32).toInt = 1 := rfl
  have e5 : (500 : Int32).toInt = 500 := rfl
  refine ⟨fun h => no (fun q => ?_), fun h => ⟨fun h2 x ex M1 e => ?_, fun h2 => no (fun q => ?_)⟩⟩
  · rw [q_lt] at h; omega
  · rw [q_lt] at h; rw [q_le] at h2; subst ex e; exact ok (by omega) (by omega)
  · rw [q_le] at h2; omega
theorem X9_fine_w (no : ¬ (1 ≤ a1.toInt ∧ a1.toInt ≤ 500) → Q (-1) M) (ok : 1 ≤ a1.toInt → a1.toInt ≤ 500 → Q (M.1 82 16) (sI M 82 16 a1)) : wX9_fine Q a1 M := by
  have e1 : (1 : Int32).toInt = 1 := rfl
  have e5 : (500 : Int32).toInt = 500 := rfl
  unfold wX9_fine wX9_in
  refine ⟨fun h => q_y0 (no (fun q => ?_)), fun h => ⟨fun h2 => q_y0 (no (fun q => ?_)), fun h2 => q_y1 (fun x ex M1 e => ?_)⟩⟩
  · rw [q_lt] at h; omega
  · rw [q_lt] at h2; omega
  · rw [q_lt] at h h2; subst ex e; exact ok (by omega) (by omega)
end SW
theorem sim_move (a1 a2 : Int32) : sim (fun Q M => wX8_move Q a1 a2 M) (fun Q M => wX9_move Q a1 a2 M) := by
  intro M K hI hK
  obtain ⟨nS, nC, nT, hn, hf, hs, hsu, hc, hcu, ho, hr, ht, hx⟩ := hI
  obtain ⟨n5, n7, n20, h8, h82, h24, h826, h60, h8217⟩ := id hn
  refine X8_move_w h8 n5 (fun h => ?_) (fun h1 h2 => ?_)
  · exact X9_move_w h82 n5 (fun _ => fin (hK M ⟨nS, nC, nT, hn, hf, hs, hsu, hc, hcu, ho, hr, ht, hx⟩)) (fun a b => absurd ⟨a, b⟩ h)
  · obtain ⟨s, hsn, rfl⟩ := vp_in_of h1 (by omega)
    rw [q_cl (by omega)]
    refine X9_move_w (by rw [sI_ni (by omega)]; exact h82) n5 (fun h => absurd ⟨h1, h2⟩ h) (fun _ _ => ?_)
    rw [q_cl (by omega), sI_ni (k' := 83) (by omega), (hs s hsn (by omega)).1.1]
    refine fin (hK _ ⟨nS, nC, nT, (hn.fr (by rw [sI_at, if_neg (by omega), sI_at, if_neg (by omega)]) (by rw [sI_at, if_neg (by omega), sI_at, if_neg (by omega)]) (by rw [sI_at, if_neg (by omega), sI_at, if_neg (by omega)]) (fun i hi => by rw [sI_at, if_neg (by omega), sI_at, if_neg (by omega)])), (hf.fr (by rw [sI_at, if_neg (by omega), sI_at, if_neg (by omega)]) (by rw [sI_at, if_neg (by omega), sI_at, if_neg (by omega)])), fun x hx h5 => ?_, hsu.fr (same_tr (same_sI (by unfold P_su; omega)) (same_sI (by unfold P_su; omega))), hc.fr (same_tr (same_sI (by unfold P_c; omega)) (same_sI (by unfold P_c; omega))), hcu.fr (same_tr (same_sI (by unfold P_cu; omega)) (same_sI (by unfold P_cu; omega))), ho.fr (same_tr (same_sI (by unfold P_o; omega)) (same_sI (by unfold P_o; omega))), hr.fr (same_tr (same_sI (by unfold P_r; omega)) (same_sI (by unfold P_r; omega))), ht.fr (same_tr (same_sI (by unfold P_t; omega)) (same_sI (by unfold P_t; omega))), hx.fr (same_tr (same_sI (by unfold P_x; omega)) (same_sI (by unfold P_x; omega)))⟩)
    obtain ⟨⟨b1, b2⟩, c1, c2, c3, c4⟩ := hs x hx h5
    refine ⟨?_, ?_, fun n hn => ?_, fun o ho h5 => ?_, ?_⟩
    · by_cases e : x = s
      · subst e; rw [sI_hit, sI_ni (by omega), sI_hit]; exact ⟨rfl, h2⟩
      · rw [sI_ni (by omega), sI_ni (by omega), sI_ni (by omega), sI_ni (by omega)]; exact ⟨b1, b2⟩
    · rw [sI_ni (by omega), sI_ni (by omega), sI_ni (by omega), sI_ni (by omega)]; exact c1
    · rw [sI_ni (by omega), sI_ni (by omega), sI_ni (by omega), sI_ni (by omega), sI_ni (by omega), sI_ni (by omega)]; exact c2 n hn
    · rw [sI_ni (by omega), sI_ni (by omega), sI_ni (by omega), sI_ni (by omega)]; exact c3 o ho h5
    · rw [sI_ni (by omega), sI_ni (by omega), sI_ni (by omega), sI_ni (by omega)]; exact c4
theorem sim_gain (a1 a2 : Int32) : sim (fun Q M => wX8_gain Q a1 a2 M) (fun Q M => wX9_gain Q a1 a2 M) := by
  intro M K hI hK
  obtain ⟨nS, nC, nT, hn, hf, hs, hsu, hc, hcu, ho, hr, ht, hx⟩ := hI
  obtain ⟨n5, n7, n20, h8, h82, h24, h826, h60, h8217⟩ := id hn
  refine X8_gain_w h8 n5 (fun h => ?_) (fun h1 h2 => ?_)
  · exact X9_gain_w h82 n5 (fun _ => fin (hK M ⟨nS, nC, nT, hn, hf, hs, hsu, hc, hcu, ho, hr, ht, hx⟩)) (fun a b => absurd ⟨a, b⟩ h)
  · obtain ⟨s, hsn, rfl⟩ := vp_in_of h1 (by omega)
    rw [q_cl (by omega)]
    refine X9_gain_w (by rw [sI_ni (by omega)]; exact h82) n5 (fun h => absurd ⟨h1, h2⟩ h) (fun _ _ => ?_)
    rw [q_cl (by omega), sI_ni (k' := 87) (by omega), (hs s hsn (by omega)).2.2.2.2.1]
    refine fin (hK _ ⟨nS, nC, nT, (hn.fr (by rw [sI_at, if_neg (by omega), sI_at, if_neg (by omega)]) (by rw [sI_at, if_neg (by omega), sI_at, if_neg (by omega)]) (by rw [sI_at, if_neg (by omega), sI_at, if_neg (by omega)]) (fun i hi => by rw [sI_at, if_neg (by omega), sI_at, if_neg (by omega)])), (hf.fr (by rw [sI_at, if_neg (by omega), sI_at, if_neg (by omega)]) (by rw [sI_at, if_neg (by omega), sI_at, if_neg (by omega)])), fun x hx h5 => ?_, fun x hx h5 => ?_, hc.fr (same_tr (same_sI (by unfold P_c; omega)) (same_sI (by unfold P_c; omega))), hcu.fr (same_tr (same_sI (by unfold P_cu; omega)) (same_sI (by unfold P_cu; omega))), ho.fr (same_tr (same_sI (by unfold P_o; omega)) (same_sI (by unfold P_o; omega))), hr.fr (same_tr (same_sI (by unfold P_r; omega)) (same_sI (by unfold P_r; omega))), ht.fr (same_tr (same_sI (by unfold P_t; omega)) (same_sI (by unfold P_t; omega))), hx.fr (same_tr (same_sI (by unfold P_x; omega)) (same_sI (by unfold P_x; omega)))⟩)
    · obtain ⟨b1, c1, c2, c3, c4⟩ := hs x hx h5
      refine ⟨?_, ?_, fun n hn => ?_, fun o ho h5 => ?_, ?_⟩
      · rw [sI_ni (by omega), sI_ni (by omega), sI_ni (by omega), sI_ni (by omega)]; exact b1
      · rw [sI_ni (by omega), sI_ni (by omega), sI_ni (by omega), sI_ni (by omega)]; exact c1
      · rw [sI_ni (by omega), sI_ni (by omega), sI_ni (by omega), sI_ni (by omega), sI_ni (by omega), sI_ni (by omega)]; exact c2 n hn
      · rw [sI_ni (by omega), sI_ni (by omega), sI_ni (by omega), sI_ni (by omega)]; exact c3 o ho h5
      · by_cases e : x = s
        · subst e; rw [sI_hit, sI_ni (by omega), sI_hit]; exact ⟨rfl, h2⟩
        · rw [sI_ni (by omega), sI_ni (by omega), sI_ni (by omega), sI_ni (by omega)]; exact c4
    · obtain ⟨b1, b2, b3⟩ := hsu x hx h5
      refine ⟨fun n hn => ?_, fun o ho => ?_, ?_⟩
      · rw [sI_ni (by omega), sI_ni (by omega)]; exact b1 n hn
      · rw [sI_ni (by omega), sI_ni (by omega), sI_ni (by omega), sI_ni (by omega)]; exact b2 o ho
      · rw [sI_ni (by omega), sI_ni (by omega)]; exact b3
theorem sim_close (a1 a2 a3 : Int32) : sim (fun Q M => wX8_close Q a1 a2 a3 M) (fun Q M => wX9_close Q a1 a2 a3 M) := by
  intro M K hI hK
  obtain ⟨nS, nC, nT, hn, hf, hs, hsu, hc, hcu, ho, hr, ht, hx⟩ := hI
  obtain ⟨n5, n7, n20, h8, h82, h24, h826, h60, h8217⟩ := id hn
  have hb : ∀ s, s < nS → M.1 84 s = M.1 10 s := fun s h => (hs s h (by omega)).2.1.1
  have hb2 : ∀ s, s < nS → vp_in (M.1 10 s) 6 := fun s h => (hs s h (by omega)).2.1.2
  refine X8_close_w (b := 0) h8 n5 hb2 (fun h => ?_) (fun h1 h2 h3 => ?_)
  · refine X9_close_w h82 n5 (fun s h => by rw [hb s h]; exact hb2 s h) (fun _ => fin (hK M ⟨nS, nC, nT, hn, hf, hs, hsu, hc, hcu, ho, hr, ht, hx⟩)) (fun a b d => absurd ⟨a, b, ?_⟩ h)
    obtain ⟨s, hsn, rfl⟩ := vp_in_of a (by omega)
    rw [q_cl (by omega), hb s hsn] at d
    rw [q_cl (by omega)]; exact d
  · obtain ⟨s, hsn, rfl⟩ := vp_in_of h1 (by omega)
    obtain ⟨y, hy, rfl⟩ := vp_in_of h2 (by omega)
    rw [q_cl (by omega)] at h3
    rw [q_cl (by omega), q_cl (by omega)]
    refine X9_close_w (by rw [sI_ni (by omega)]; exact h82) n5 (fun x h => by rw [sI_ni (by omega), hb x h]; exact hb2 x h) (fun h => absurd ⟨h1, h2, ?_⟩ h) (fun _ _ _ => ?_)
    rotate_left
    · rw [q_cl (by omega), sI_ni (by omega), hb s hsn]; exact h3
    · rw [q_cl (by omega), q_cl (by omega), sI_ni (k' := 85) (by omega), ((hs s hsn (by omega)).2.2.1 y hy).1]
      refine fin (hK _ ⟨nS, nC, nT, (hn.fr (by rw [sI_at, if_neg (by omega), sI_at, if_neg (by omega)]) (by rw [sI_at, if_neg (by omega), sI_at, if_neg (by omega)]) (by rw [sI_at, if_neg (by omega), sI_at, if_neg (by omega)]) (fun i hi => by rw [sI_at, if_neg (by omega), sI_at, if_neg (by omega)])), (hf.fr (by rw [sI_at, if_neg (by omega), sI_at, if_neg (by omega)]) (by rw [sI_at, if_neg (by omega), sI_at, if_neg (by omega)])), fun x hx h5 => ?_, fun x hx h5 => ?_, hc.fr (same_tr (same_sI (by unfold P_c; omega)) (same_sI (by unfold P_c; omega))), hcu.fr (same_tr (same_sI (by unfold P_cu; omega)) (same_sI (by unfold P_cu; omega))), ho.fr (same_tr (same_sI (by unfold P_o; omega)) (same_sI (by unfold P_o; omega))), hr.fr (same_tr (same_sI (by unfold P_r; omega)) (same_sI (by unfold P_r; omega))), ht.fr (same_tr (same_sI (by unfold P_t; omega)) (same_sI (by unfold P_t; omega))), hx.fr (same_tr (same_sI (by unfold P_x; omega)) (same_sI (by unfold P_x; omega)))⟩)
      · obtain ⟨b1, c1, c2, c3, c4⟩ := hs x hx h5
        refine ⟨?_, ?_, fun n hn => ?_, fun o ho h5 => ?_, ?_⟩
        · rw [sI_ni (by omega), sI_ni (by omega), sI_ni (by omega), sI_ni (by omega)]; exact b1
        · rw [sI_ni (by omega), sI_ni (by omega), sI_ni (by omega), sI_ni (by omega)]; exact c1
        · rw [sI_ni (k' := 10) (by omega), sI_ni (k' := 10) (by omega)]
          by_cases e : x = s ∧ n = y
          · obtain ⟨rfl, rfl⟩ := e
            rw [sI_hit, sI_ni (by omega), sI_hit]; exact ⟨rfl, h3⟩
          · rw [sI_ni (k' := 85) (by omega), sI_ni (k' := 85) (by omega), sI_ni (by omega), sI_ni (by omega)]; exact c2 n hn
        · rw [sI_ni (by omega), sI_ni (by omega), sI_ni (by omega), sI_ni (by omega)]; exact c3 o ho h5
        · rw [sI_ni (by omega), sI_ni (by omega), sI_ni (by omega), sI_ni (by omega)]; exact c4
      · obtain ⟨b1, b2, b3⟩ := hsu x hx h5
        refine ⟨fun n hn => ?_, fun o ho => ?_, ?_⟩
        · rw [sI_ni (by omega), sI_ni (by omega)]; exact b1 n hn
        · rw [sI_ni (by omega), sI_ni (by omega), sI_ni (by omega), sI_ni (by omega)]; exact b2 o ho
        · rw [sI_ni (by omega), sI_ni (by omega)]; exact b3
theorem sim_limit (a1 a2 : Int32) : sim (fun Q M => wX8_limit Q a1 a2 M) (fun Q M => wX9_limit Q a1 a2 M) := by
  intro M K hI hK
  obtain ⟨nS, nC, nT, hn, hf, hs, hsu, hc, hcu, ho, hr, ht, hx⟩ := hI
  obtain ⟨n5, n7, n20, h8, h82, h24, h826, h60, h8217⟩ := id hn
  refine X8_limit_w h24 n7 (fun h => ?_) (fun h1 h2 => ?_)
  · exact X9_limit_w h826 n7 (fun _ => fin (hK M ⟨nS, nC, nT, hn, hf, hs, hsu, hc, hcu, ho, hr, ht, hx⟩)) (fun a b => absurd ⟨a, b⟩ h)
  · obtain ⟨s, hsn, rfl⟩ := vp_in_of h1 (by omega)
    rw [q_cl (by omega)]
    refine X9_limit_w (by rw [sI_ni (by omega)]; exact h826) n7 (fun h => absurd ⟨h1, h2⟩ h) (fun _ _ => ?_)
    rw [q_cl (by omega), sI_ni (k' := 91) (by omega), (hc s hsn (by omega)).2.1.1]
    refine fin (hK _ ⟨nS, nC, nT, (hn.fr (by rw [sI_at, if_neg (by omega), sI_at, if_neg (by omega)]) (by rw [sI_at, if_neg (by omega), sI_at, if_neg (by omega)]) (by rw [sI_at, if_neg (by omega), sI_at, if_neg (by omega)]) (fun i hi => by rw [sI_at, if_neg (by omega), sI_at, if_neg (by omega)])), (hf.fr (by rw [sI_at, if_neg (by omega), sI_at, if_neg (by omega)]) (by rw [sI_at, if_neg (by omega), sI_at, if_neg (by omega)])), hs.fr (same_tr (same_sI (by unfold P_s; omega)) (same_sI (by unfold P_s; omega))), hsu.fr (same_tr (same_sI (by unfold P_su; omega)) (same_sI (by unfold P_su; omega))), fun x hx h5 => ?_, hcu.fr (same_tr (same_sI (by unfold P_cu; omega)) (same_sI (by unfold P_cu; omega))), ho.fr (same_tr (same_sI (by unfold P_o; omega)) (same_sI (by unfold P_o; omega))), hr.fr (same_tr (same_sI (by unfold P_r; omega)) (same_sI (by unfold P_r; omega))), ht.fr (same_tr (same_sI (by unfold P_t; omega)) (same_sI (by unfold P_t; omega))), hx.fr (same_tr (same_sI (by unfold P_x; omega)) (same_sI (by unfold P_x; omega)))⟩)
    obtain ⟨b1, b2, c2, c3⟩ := hc x hx h5
    refine ⟨?_, ?_, fun n hn => ?_, fun z o hz ho => ?_⟩
    · rw [sI_ni (by omega), sI_ni (by omega), sI_ni (by omega), sI_ni (by omega)]; exact b1
    · by_cases e : x = s
      · subst e; rw [sI_hit, sI_ni (by omega), sI_hit]; exact ⟨rfl, h2⟩
      · rw [sI_ni (by omega), sI_ni (by omega), sI_ni (by omega), sI_ni (by omega)]; exact b2
    · rw [sI_ni (by omega), sI_ni (by omega), sI_ni (by omega), sI_ni (by omega)]; exact c2 n hn
    · rw [sI_ni (by omega), sI_ni (by omega), sI_ni (k' := 27) (by omega), sI_ni (k' := 27) (by omega)]; exact c3 z o hz ho
theorem sim_cards (a1 a2 a3 : Int32) : sim (fun Q M => wX8_cards Q a1 a2 a3 M) (fun Q M => wX9_cards Q a1 a2 a3 M) := by
  intro M K hI hK
  obtain ⟨nS, nC, nT, hn, hf, hs, hsu, hc, hcu, ho, hr, ht, hx⟩ := hI
  obtain ⟨n5, n7, n20, h8, h82, h24, h826, h60, h8217⟩ := id hn
  refine X8_cards_w h24 n7 (fun h => ?_) (fun h1 h2 h3 => ?_)
  · exact X9_cards_w h826 n7 (fun _ => fin (hK M ⟨nS, nC, nT, hn, hf, hs, hsu, hc, hcu, ho, hr, ht, hx⟩)) (fun a b d => absurd ⟨a, b, d⟩ h)
  · obtain ⟨s, hsn, rfl⟩ := vp_in_of h1 (by omega)
    obtain ⟨y, hy, rfl⟩ := vp_in_of h2 (by omega)
    rw [q_cl (by omega), q_cl (by omega)]
    refine X9_cards_w (by rw [sI_ni (by omega)]; exact h826) n7 (fun h => absurd ⟨h1, h2, h3⟩ h) (fun _ _ _ => ?_)
    rw [q_cl (by omega), q_cl (by omega), sI_ni (k' := 90) (by omega), ((hc s hsn (by omega)).2.2.1 y hy).1]
    refine fin (hK _ ⟨nS, nC, nT, (hn.fr (by rw [sI_at, if_neg (by omega), sI_at, if_neg (by omega)]) (by rw [sI_at, if_neg (by omega), sI_at, if_neg (by omega)]) (by rw [sI_at, if_neg (by omega), sI_at, if_neg (by omega)]) (fun i hi => by rw [sI_at, if_neg (by omega), sI_at, if_neg (by omega)])), (hf.fr (by rw [sI_at, if_neg (by omega), sI_at, if_neg (by omega)]) (by rw [sI_at, if_neg (by omega), sI_at, if_neg (by omega)])), hs.fr (same_tr (same_sI (by unfold P_s; omega)) (same_sI (by unfold P_s; omega))), hsu.fr (same_tr (same_sI (by unfold P_su; omega)) (same_sI (by unfold P_su; omega))), fun x hx h5 => ?_, fun x hx h5 => ?_, ho.fr (same_tr (same_sI (by unfold P_o; omega)) (same_sI (by unfold P_o; omega))), hr.fr (same_tr (same_sI (by unfold P_r; omega)) (same_sI (by unfold P_r; omega))), ht.fr (same_tr (same_sI (by unfold P_t; omega)) (same_sI (by unfold P_t; omega))), hx.fr (same_tr (same_sI (by unfold P_x; omega)) (same_sI (by unfold P_x; omega)))⟩)
    · obtain ⟨b1, b2, c2, c3⟩ := hc x hx h5
      refine ⟨?_, ?_, fun n hn => ?_, fun z o hz ho => ?_⟩
      · rw [sI_ni (by omega), sI_ni (by omega), sI_ni (by omega), sI_ni (by omega)]; exact b1
      · rw [sI_ni (by omega), sI_ni (by omega), sI_ni (by omega), sI_ni (by omega)]; exact b2
      · by_cases e : x = s ∧ n = y
        · obtain ⟨rfl, rfl⟩ := e
          rw [sI_hit, sI_ni (by omega), sI_hit]; exact ⟨rfl, h3⟩
        · rw [sI_ni (k' := 90) (by omega), sI_ni (k' := 90) (by omega), sI_ni (by omega), sI_ni (by omega)]; exact c2 n hn
      · rw [sI_ni (by omega), sI_ni (by omega), sI_ni (k' := 27) (by omega), sI_ni (k' := 27) (by omega)]; exact c3 z o hz ho
    · obtain ⟨b1, b2⟩ := hcu x hx h5
      refine ⟨?_, fun z hz => ?_⟩
      · rw [sI_ni (by omega), sI_ni (by omega)]; exact b1
      · rw [sI_ni (by omega), sI_ni (by omega)]; exact b2 z hz
theorem sim_fine (a1 : Int32) : sim (fun Q M => wX8_fine Q a1 M) (fun Q M => wX9_fine Q a1 M) := by
  intro M K hI hK
  obtain ⟨nS, nC, nT, hn, hf, hs, hsu, hc, hcu, ho, hr, ht, hx⟩ := hI
  obtain ⟨n5, n7, n20, h8, h82, h24, h826, h60, h8217⟩ := id hn
  refine X8_fine_w (fun h => ?_) (fun h1 h2 => ?_)
  · exact X9_fine_w (fun _ => fin (hK M ⟨nS, nC, nT, hn, hf, hs, hsu, hc, hcu, ho, hr, ht, hx⟩)) (fun a b => absurd ⟨a, b⟩ h)
  · refine X9_fine_w (fun h => absurd ⟨h1, h2⟩ h) (fun _ _ => ?_)
    rw [sI_ni (k' := 82) (by omega), hf.2.2]
    have e59 : (sI (sI M 59 1 a1) 82 16 a1).1 59 1 = a1 := by rw [sI_ni (by omega), sI_hit]
    refine fin (hK _ ⟨nS, nC, nT, ⟨n5, n7, n20, by rw [sI_at, if_neg (by omega), sI_at, if_neg (by omega)]; exact h8, by rw [sI_at, if_neg (by omega), sI_at, if_neg (by omega)]; exact h82, by rw [sI_at, if_neg (by omega), sI_at, if_neg (by omega)]; exact h24, by rw [sI_at, if_neg (by omega), sI_at, if_neg (by omega)]; exact h826, by rw [sI_at, if_neg (by omega), sI_at, if_neg (by omega)]; exact h60, by rw [sI_at, if_neg (by omega), sI_at, if_neg (by omega)]; exact h8217⟩, ⟨by rw [e59, q_in]; omega, by rw [e59]; exact h1, by rw [e59, sI_hit]⟩, hs.fr (same_tr (same_sI (by unfold P_s; omega)) (same_sI (by unfold P_s; omega))), hsu.fr (same_tr (same_sI (by unfold P_su; omega)) (same_sI (by unfold P_su; omega))), hc.fr (same_tr (same_sI (by unfold P_c; omega)) (same_sI (by unfold P_c; omega))), hcu.fr (same_tr (same_sI (by unfold P_cu; omega)) (same_sI (by unfold P_cu; omega))), ho.fr (same_tr (same_sI (by unfold P_o; omega)) (same_sI (by unfold P_o; omega))), hr.fr (same_tr (same_sI (by unfold P_r; omega)) (same_sI (by unfold P_r; omega))), ht.fr (same_tr (same_sI (by unfold P_t; omega)) (same_sI (by unfold P_t; omega))), hx.fr (same_tr (same_sI (by unfold P_x; omega)) (same_sI (by unfold P_x; omega)))⟩)
theorem sim_walk (a1 a2 a3 : Int32) : sim (fun Q M => wX8_walk Q a1 a2 a3 M) (fun Q M => wX9_walk Q a1 a2 a3 M) := by
  intro M K hI hK
  obtain ⟨nS, nC, nT, hn, hf, hs, hsu, hc, hcu, ho, hr, ht, hx⟩ := hI
  obtain ⟨n5, n7, n20, h8, h82, h24, h826, h60, h8217⟩ := id hn
  refine X8_walk_w h8 n5 (fun h => ?_) (fun h1 h2 h3 h4 => ?_)
  · exact X9_walk_w h82 n5 (fun _ => fin (hK M ⟨nS, nC, nT, hn, hf, hs, hsu, hc, hcu, ho, hr, ht, hx⟩)) (fun a b d e => absurd ⟨a, b, d, e⟩ h)
  · obtain ⟨s, hsn, rfl⟩ := vp_in_of h1 (by omega)
    obtain ⟨y, hy, rfl⟩ := vp_in_of h2 (by omega)
    have hsy : s ≠ y := fun e => h3 (by rw [e])
    rw [q_cl (by omega), q_cl (by omega)]
    refine X9_walk_w (by rw [sI_ni (by omega), sI_ni (by omega)]; exact h82) n5 (fun h => absurd ⟨h1, h2, h3, h4⟩ h) (fun _ _ _ _ => ?_)
    rw [q_cl (by omega), q_cl (by omega), sI_ni (k' := 86) (by omega), sI_ni (k' := 86) (by omega), ((hs s hsn (by omega)).2.2.2.1 y hy (by omega)).1]
    have e86 : ∀ x o, x < 5 → o < 5 → (sI (sI (sI (sI M (18 + s) y a3) (18 + y) s a3) 86 (5 * s + y) a3) 86 (5 * y + s) a3).1 86 (5 * x + o) = if (x = s ∧ o = y) ∨ (x = y ∧ o = s) then a3 else M.1 86 (5 * x + o) := by
      intro x o hx ho
      by_cases e : (x = s ∧ o = y) ∨ (x = y ∧ o = s)
      · rw [if_pos e]
        rcases e with ⟨rfl, rfl⟩ | ⟨rfl, rfl⟩
        · rw [sI_ni (by omega), sI_hit]
        · rw [sI_hit]
      · rw [if_neg e, sI_ni (by omega), sI_ni (by omega), sI_ni (by omega), sI_ni (by omega)]
    have e18 : ∀ x o, x < 5 → o < 5 → (sI (sI (sI (sI M (18 + s) y a3) (18 + y) s a3) 86 (5 * s + y) a3) 86 (5 * y + s) a3).1 (18 + x) o = if (x = s ∧ o = y) ∨ (x = y ∧ o = s) then a3 else M.1 (18 + x) o := by
      intro x o hx ho
      rw [sI_ni (by omega), sI_ni (by omega)]
      by_cases e : (x = s ∧ o = y) ∨ (x = y ∧ o = s)
      · rw [if_pos e]
        rcases e with ⟨rfl, rfl⟩ | ⟨rfl, rfl⟩
        · rw [sI_ni (by omega), sI_hit]
        · rw [sI_hit]
      · rw [if_neg e, sI_ni (by omega), sI_ni (by omega)]
    refine fin (hK _ ⟨nS, nC, nT, (hn.fr (by rw [sI_at, if_neg (by omega), sI_at, if_neg (by omega), sI_at, if_neg (by omega), sI_at, if_neg (by omega)]) (by rw [sI_at, if_neg (by omega), sI_at, if_neg (by omega), sI_at, if_neg (by omega), sI_at, if_neg (by omega)]) (by rw [sI_at, if_neg (by omega), sI_at, if_neg (by omega), sI_at, if_neg (by omega), sI_at, if_neg (by omega)]) (fun i hi => by rw [sI_at, if_neg (by omega), sI_at, if_neg (by omega), sI_at, if_neg (by omega), sI_at, if_neg (by omega)])), (hf.fr (by rw [sI_at, if_neg (by omega), sI_at, if_neg (by omega), sI_at, if_neg (by omega), sI_at, if_neg (by omega)]) (by rw [sI_at, if_neg (by omega), sI_at, if_neg (by omega), sI_at, if_neg (by omega), sI_at, if_neg (by omega)])), fun x hx h5 => ?_, fun x hx h5 => ?_, hc.fr (same_tr (same_tr (same_tr (same_sI (by unfold P_c; omega)) (same_sI (by unfold P_c; omega))) (same_sI (by unfold P_c; omega))) (same_sI (by unfold P_c; omega))), hcu.fr (same_tr (same_tr (same_tr (same_sI (by unfold P_cu; omega)) (same_sI (by unfold P_cu; omega))) (same_sI (by unfold P_cu; omega))) (same_sI (by unfold P_cu; omega))), ho.fr (same_tr (same_tr (same_tr (same_sI (by unfold P_o; omega)) (same_sI (by unfold P_o; omega))) (same_sI (by unfold P_o; omega))) (same_sI (by unfold P_o; omega))), hr.fr (same_tr (same_tr (same_tr (same_sI (by unfold P_r; omega)) (same_sI (by unfold P_r; omega))) (same_sI (by unfold P_r; omega))) (same_sI (by unfold P_r; omega))), ht.fr (same_tr (same_tr (same_tr (same_sI (by unfold P_t; omega)) (same_sI (by unfold P_t; omega))) (same_sI (by unfold P_t; omega))) (same_sI (by unfold P_t; omega))), hx.fr (same_tr (same_tr (same_tr (same_sI (by unfold P_x; omega)) (same_sI (by unfold P_x; omega))) (same_sI (by unfold P_x; omega))) (same_sI (by unfold P_x; omega)))⟩)
    · obtain ⟨b1, c1, c2, c3, c4⟩ := hs x hx h5
      refine ⟨?_, ?_, fun n hn => ?_, fun o ho h5 => ?_, ?_⟩
      · rw [sI_ni (by omega), sI_ni (by omega), sI_ni (by omega), sI_ni (by omega), sI_ni (by omega), sI_ni (by omega), sI_ni (by omega), sI_ni (by omega)]; exact b1
      · rw [sI_ni (by omega), sI_ni (by omega), sI_ni (by omega), sI_ni (by omega), sI_ni (by omega), sI_ni (by omega), sI_ni (by omega), sI_ni (by omega)]; exact c1
      · rw [sI_ni (by omega), sI_ni (by omega), sI_ni (by omega), sI_ni (by omega), sI_ni (by omega), sI_ni (by omega), sI_ni (by omega), sI_ni (by omega), sI_ni (by omega), sI_ni (by omega), sI_ni (by omega), sI_ni (by omega)]; exact c2 n hn
      · rw [e86 x o (by omega) h5, e18 x o (by omega) h5]
        by_cases e : (x = s ∧ o = y) ∨ (x = y ∧ o = s)
        · rw [if_pos e, if_pos e]; exact ⟨rfl, h4⟩
        · rw [if_neg e, if_neg e]; exact c3 o ho h5
      · rw [sI_ni (by omega), sI_ni (by omega), sI_ni (by omega), sI_ni (by omega), sI_ni (by omega), sI_ni (by omega), sI_ni (by omega), sI_ni (by omega)]; exact c4
    · obtain ⟨b1, b2, b3⟩ := hsu x hx h5
      refine ⟨fun n hn => ?_, fun o ho => ?_, ?_⟩
      · rw [sI_ni (by omega), sI_ni (by omega), sI_ni (by omega), sI_ni (by omega)]; exact b1 n hn
      · have u1 := e18 x o h5 ho
        have u2 := e18 o x ho h5
        rw [if_neg (by omega)] at u1 u2
        rw [u1, u2]; exact b2 o ho
      · rw [sI_ni (by omega), sI_ni (by omega), sI_ni (by omega), sI_ni (by omega)]; exact b3
