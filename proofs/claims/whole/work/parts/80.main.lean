/-! the law -/
theorem l_law (xs : Nat → Int32) (L : Nat) (hL : L ≤ 3072) : ∀ (d i : Nat) (M : pd_M), Inv M → L < 6 * (i + d) + 6 → 6 * (i + d) < 6000 → lpL_law xs L (d + 1) (nI (6 * i)) M
  | d, i, M, hI, hd, hb => by
    have hcmp : (Int32.ofNat L - 6 < nI (6 * i)) ↔ (L : Int) - 6 < 6 * i := by
      rw [q_lt, nI_toInt (by omega)]
      have := pk_sub_toInt (a := L) (b := 6) (by omega) (by omega)
      rw [show (Int32.ofNat L - 6).toInt = (nI L - nI 6).toInt from rfl, this]
      omega
    refine ⟨fun _ => trivial, fun hn => ?_⟩
    rw [hcmp] at hn
    obtain ⟨d, rfl⟩ : ∃ d', d = d' + 1 := ⟨d - 1, by omega⟩
    have hin : ∀ j, j < 6 → vp_in (nI (6 * i) + nI j) L := fun j hj => by
      rw [nI_add]; exact vp_in_nI (by omega) (by omega)
    have e1 : ∀ W : Prop, (vp_in (nI (6 * i) + 1) L ∧ W) = W := fun W => propext ⟨And.right, fun w => ⟨hin 1 (by omega), w⟩⟩
    have e2 : ∀ W : Prop, (vp_in (nI (6 * i) + 2) L ∧ W) = W := fun W => propext ⟨And.right, fun w => ⟨hin 2 (by omega), w⟩⟩
    have e3 : ∀ W : Prop, (vp_in (nI (6 * i) + 3) L ∧ W) = W := fun W => propext ⟨And.right, fun w => ⟨hin 3 (by omega), w⟩⟩
    have e4 : ∀ W : Prop, (vp_in (nI (6 * i) + 4) L ∧ W) = W := fun W => propext ⟨And.right, fun w => ⟨hin 4 (by omega), w⟩⟩
    have e5 : ∀ W : Prop, (vp_in (nI (6 * i) + 5) L ∧ W) = W := fun W => propext ⟨And.right, fun w => ⟨hin 5 (by omega), w⟩⟩
    have next : ∀ M', Inv M' → ∀ x3 : Int32, x3 = nI (6 * i) + 6 → lpL_law xs L (d + 1) x3 M' := fun M' hI' x ex => by
      rw [show (6 : Int32) = nI 6 from rfl, nI_add, show 6 * i + 6 = 6 * (i + 1) by omega] at ex
      subst ex
      exact l_law xs L hL d (i + 1) M' hI' (by omega) (by omega)
    refine ⟨vp_in_nI (by omega) (by omega), fun sw esw => ?_⟩
    refine ⟨fun _ => ?_, fun _ => ?_⟩
    · simp only [e1, e2]
      exact sim_street _ _ M (fun M' => ∀ x3 : Int32, x3 = nI (6 * i) + 6 → lpL_law xs L (d + 1) x3 M') hI next
    refine ⟨fun _ => ?_, fun _ => ?_⟩
    · simp only [e1, e2]
      exact sim_move _ _ M (fun M' => ∀ x3 : Int32, x3 = nI (6 * i) + 6 → lpL_law xs L (d + 1) x3 M') hI next
    refine ⟨fun _ => ?_, fun _ => ?_⟩
    · simp only [e1, e2, e3]
      exact sim_walk _ _ _ M (fun M' => ∀ x3 : Int32, x3 = nI (6 * i) + 6 → lpL_law xs L (d + 1) x3 M') hI next
    refine ⟨fun _ => ?_, fun _ => ?_⟩
    · simp only [e1, e2, e3]
      exact sim_close _ _ _ M (fun M' => ∀ x3 : Int32, x3 = nI (6 * i) + 6 → lpL_law xs L (d + 1) x3 M') hI next
    refine ⟨fun _ => ?_, fun _ => ?_⟩
    · simp only [e1, e2, e3]
      exact sim_rule _ _ _ M (fun M' => ∀ x3 : Int32, x3 = nI (6 * i) + 6 → lpL_law xs L (d + 1) x3 M') hI next
    refine ⟨fun _ => ?_, fun _ => ?_⟩
    · simp only [e1, e2, e3, e4]
      exact sim_hours _ _ _ _ M (fun M' => ∀ x3 : Int32, x3 = nI (6 * i) + 6 → lpL_law xs L (d + 1) x3 M') hI next
    refine ⟨fun _ => ?_, fun _ => ?_⟩
    · simp only [e1]
      exact sim_car _ M (fun M' => ∀ x3 : Int32, x3 = nI (6 * i) + 6 → lpL_law xs L (d + 1) x3 M') hI next
    refine ⟨fun _ => ?_, fun _ => ?_⟩
    · simp only [e1, e2, e3, e4]
      refine ⟨fun h0 => ?_, fun h0 => ?_⟩
      · have hP : ∀ A B : Prop, ((xs (nI (6 * i) + 4).toNatClampNeg = 0 → A) ∧ (¬ xs (nI (6 * i) + 4).toNatClampNeg = 0 → B)) = A := fun A B => propext ⟨fun q => q.1 h0, fun a => ⟨fun _ => a, fun n => absurd h0 n⟩⟩
        simp only [hP]
        exact sim_permit _ _ _ _ (Or.inl rfl) M (fun M' => ∀ x3 : Int32, x3 = nI (6 * i) + 6 → lpL_law xs L (d + 1) x3 M') hI next
      · have hP : ∀ A B : Prop, ((xs (nI (6 * i) + 4).toNatClampNeg = 0 → A) ∧ (¬ xs (nI (6 * i) + 4).toNatClampNeg = 0 → B)) = B := fun A B => propext ⟨fun q => q.2 h0, fun a => ⟨fun n => absurd n h0, fun _ => a⟩⟩
        simp only [hP]
        exact sim_permit _ _ _ _ (Or.inr rfl) M (fun M' => ∀ x3 : Int32, x3 = nI (6 * i) + 6 → lpL_law xs L (d + 1) x3 M') hI next
    refine ⟨fun _ => ?_, fun _ => ?_⟩
    · simp only [e1, e2, e3]
      exact sim_cards _ _ _ M (fun M' => ∀ x3 : Int32, x3 = nI (6 * i) + 6 → lpL_law xs L (d + 1) x3 M') hI next
    refine ⟨fun _ => ?_, fun _ => ?_⟩
    · simp only [e1, e2]
      exact sim_limit _ _ M (fun M' => ∀ x3 : Int32, x3 = nI (6 * i) + 6 → lpL_law xs L (d + 1) x3 M') hI next
    refine ⟨fun _ => ?_, fun _ => ?_⟩
    · simp only [e1]
      exact sim_late _ M (fun M' => ∀ x3 : Int32, x3 = nI (6 * i) + 6 → lpL_law xs L (d + 1) x3 M') hI next
    refine ⟨fun _ => ?_, fun _ => ?_⟩
    · simp only [e1, e2, e3]
      exact sim_may _ _ _ M (fun M' => ∀ x3 : Int32, x3 = nI (6 * i) + 6 → lpL_law xs L (d + 1) x3 M') hI next
    refine ⟨fun _ => ?_, fun _ => ?_⟩
    · simp only [e1, e2, e3, e4]
      refine ⟨fun h0 => ?_, fun h0 => ?_⟩
      · have hP : ∀ A B : Prop, ((xs (nI (6 * i) + 4).toNatClampNeg = 0 → A) ∧ (¬ xs (nI (6 * i) + 4).toNatClampNeg = 0 → B)) = A := fun A B => propext ⟨fun q => q.1 h0, fun a => ⟨fun _ => a, fun n => absurd h0 n⟩⟩
        simp only [hP]
        exact sim_stands _ _ _ _ M (fun M' => ∀ x3 : Int32, x3 = nI (6 * i) + 6 → lpL_law xs L (d + 1) x3 M') hI next
      · have hP : ∀ A B : Prop, ((xs (nI (6 * i) + 4).toNatClampNeg = 0 → A) ∧ (¬ xs (nI (6 * i) + 4).toNatClampNeg = 0 → B)) = B := fun A B => propext ⟨fun q => q.2 h0, fun a => ⟨fun n => absurd n h0, fun _ => a⟩⟩
        simp only [hP]
        exact sim_stands _ _ _ _ M (fun M' => ∀ x3 : Int32, x3 = nI (6 * i) + 6 → lpL_law xs L (d + 1) x3 M') hI next
    refine ⟨fun _ => ?_, fun _ => ?_⟩
    · simp only [e1, e2, e3, e4]
      refine ⟨fun h0 => ?_, fun h0 => ?_⟩
      · have hP : ∀ A B : Prop, ((xs (nI (6 * i) + 4).toNatClampNeg = 0 → A) ∧ (¬ xs (nI (6 * i) + 4).toNatClampNeg = 0 → B)) = A := fun A B => propext ⟨fun q => q.1 h0, fun a => ⟨fun _ => a, fun n => absurd h0 n⟩⟩
        simp only [hP]
        exact sim_told _ _ _ _ M (fun M' => ∀ x3 : Int32, x3 = nI (6 * i) + 6 → lpL_law xs L (d + 1) x3 M') hI next
      · have hP : ∀ A B : Prop, ((xs (nI (6 * i) + 4).toNatClampNeg = 0 → A) ∧ (¬ xs (nI (6 * i) + 4).toNatClampNeg = 0 → B)) = B := fun A B => propext ⟨fun q => q.2 h0, fun a => ⟨fun n => absurd n h0, fun _ => a⟩⟩
        simp only [hP]
        exact sim_told _ _ _ _ M (fun M' => ∀ x3 : Int32, x3 = nI (6 * i) + 6 → lpL_law xs L (d + 1) x3 M') hI next
    refine ⟨fun _ => ?_, fun _ => ?_⟩
    · simp only [e1, e2]
      exact sim_keep _ _ M (fun M' => ∀ x3 : Int32, x3 = nI (6 * i) + 6 → lpL_law xs L (d + 1) x3 M') hI next
    refine ⟨fun _ => ?_, fun _ => ?_⟩
    · simp only [e1, e2, e3, e4, e5]
      exact sim_moved _ _ _ _ _ M (fun M' => ∀ x3 : Int32, x3 = nI (6 * i) + 6 → lpL_law xs L (d + 1) x3 M') hI next
    refine ⟨fun _ => ?_, fun _ => ?_⟩
    · simp only [e1, e2]
      exact sim_gain _ _ M (fun M' => ∀ x3 : Int32, x3 = nI (6 * i) + 6 → lpL_law xs L (d + 1) x3 M') hI next
    refine ⟨fun _ => ?_, fun _ => ?_⟩
    · simp only [e1]
      exact sim_fine _ M (fun M' => ∀ x3 : Int32, x3 = nI (6 * i) + 6 → lpL_law xs L (d + 1) x3 M') hI next
    refine ⟨fun _ => ?_, fun _ => ?_⟩
    · simp only [e1, e2]
      exact sim_turn _ _ M (fun M' => ∀ x3 : Int32, x3 = nI (6 * i) + 6 → lpL_law xs L (d + 1) x3 M') hI next
    refine ⟨fun _ => ?_, fun _ => ?_⟩
    · simp only [e1]
      exact sim_stake _ M (fun M' => ∀ x3 : Int32, x3 = nI (6 * i) + 6 → lpL_law xs L (d + 1) x3 M') hI next
    refine ⟨fun _ => ?_, fun _ => ?_⟩
    · simp only [e1, e2, e3, e4]
      exact sim_ticket _ _ _ _ M (fun M' => ∀ x3 : Int32, x3 = nI (6 * i) + 6 → lpL_law xs L (d + 1) x3 M') hI next
    refine ⟨fun _ => ?_, fun _ => ?_⟩
    · simp only [e1, e2]
      exact sim_of _ _ M (fun M' => ∀ x3 : Int32, x3 = nI (6 * i) + 6 → lpL_law xs L (d + 1) x3 M') hI next
    refine ⟨fun _ => ?_, fun _ => ?_⟩
    · simp only [e1]
      exact sim_many _ M (fun M' => ∀ x3 : Int32, x3 = nI (6 * i) + 6 → lpL_law xs L (d + 1) x3 M') hI next
    exact next M hI
theorem l_i60 {K : pd_M → Prop} {i : Nat} (hi : i < 5) : ∀ (d o : Nat) (M : pd_M), o + d = 5 → (∀ M', frm (fun k j => k = 18 + i ∧ o ≤ j ∧ j < 5) M M' → (∀ j, o ≤ j → j < 5 → M'.1 (18 + i) j = if i = j then 0 else 10) → K M') → lpX4_init_60 K (nI i) (d + 1) (nI o) M
  | 0, o, M, hd, hK => by
    refine ⟨fun _ => hK M frm_rf (fun j h1 h2 => by omega), fun h => absurd ?_ h⟩
    rw [show (5 : Int32) = nI 5 from rfl, n_le (by decide) (by omega)]; omega
  | d + 1, o, M, hd, hK => by
    have v5 : vp_in (nI o) 5 := vp_in_nI (by omega) (by decide)
    have go : ∀ v, v = (if i = o then (0 : Int32) else 10) → ∀ M1, M1 = sI M (18 + (nI i).toNatClampNeg) (nI o).toNatClampNeg v → ∀ y, y = nI o + 1 → lpX4_init_60 K (nI i) (d + 1) y M1 := fun v hv M1 em y ey => by
      rw [q_cl (by omega), q_cl (by omega)] at em
      rw [nI_1] at ey
      subst ey em
      refine l_i60 hi d (o + 1) _ (by omega) (fun M' hf hw => hK M' (frm_sI (frm_mono hf (fun k j h => by omega)) (by omega)) (fun j h1 h2 => ?_))
      by_cases e : j = o
      · subst e; rw [hf (18 + i) j (by omega), sI_hit]; exact hv
      · exact hw j (by omega) h2
    refine ⟨fun h => absurd h ?_, fun _ => ⟨vp_in_nI hi (by decide), fun ne => ⟨v5, go 10 ?_⟩, fun e => ⟨v5, go 0 ?_⟩⟩⟩
    · rw [show (5 : Int32) = nI 5 from rfl, n_le (by decide) (by omega)]; omega
    · rw [nI_eq (by omega) (by omega)] at ne; rw [if_neg ne]
    · rw [nI_eq (by omega) (by omega)] at e; rw [if_pos e]
theorem l_i53 {K : pd_M → Prop} : ∀ (d i : Nat) (M : pd_M), i + d = 5 → (∀ M', frm (fun k j => 18 + i ≤ k ∧ k < 23) M M' → (∀ s o, i ≤ s → s < 5 → o < 5 → M'.1 (18 + s) o = if s = o then 0 else 10) → K M') → lpX4_init_53 K (d + 1) (nI i) M
  | 0, i, M, hd, hK => by
    refine ⟨fun _ => hK M frm_rf (fun j o h1 h2 => by omega), fun h => absurd ?_ h⟩
    rw [show (5 : Int32) = nI 5 from rfl, n_le (by decide) (by omega)]; omega
  | d + 1, i, M, hd, hK => by
    refine ⟨fun h => absurd h ?_, fun _ => ⟨6, l_i60 (by omega) 5 0 M (by omega) (fun M1 f1 v1 y ey => ?_)⟩⟩
    · rw [show (5 : Int32) = nI 5 from rfl, n_le (by decide) (by omega)]; omega
    · rw [nI_1] at ey
      subst ey
      refine l_i53 d (i + 1) M1 (by omega) (fun M' hf hw => hK M' (fun k j q => by rw [hf k j (by omega), f1 k j (by omega)]) (fun s o h1 h2 h3 => ?_))
      by_cases e : s = i
      · subst e; rw [hf (18 + s) o (by omega)]; exact v1 o (by omega) h3
      · exact hw s o (by omega) h2 h3
theorem l_i212 {K : pd_M → Prop} {z : Nat} (hz : z < 4) : ∀ (d t : Nat) (M : pd_M), t + d = 3 → (∀ M', frm (fun k j => k = 95 ∧ 3 * z + t ≤ j ∧ j < 3 * z + 3) M M' → (∀ u, t ≤ u → u < 3 → M'.1 95 (3 * z + u) = -1) → K M') → lpX9_init_212 K (nI z) (d + 1) (nI t) M
  | 0, t, M, hd, hK => by
    refine ⟨fun _ => hK M frm_rf (fun j h1 h2 => by omega), fun h => absurd ?_ h⟩
    rw [show (3 : Int32) = nI 3 from rfl, n_le (by decide) (by omega)]; omega
  | d + 1, t, M, hd, hK => by
    refine ⟨fun h => absurd h ?_, fun _ => ?_⟩
    · rw [show (3 : Int32) = nI 3 from rfl, n_le (by decide) (by omega)]; omega
    · rw [q_c3, q_cl (by omega)]
      refine ⟨vp_in_nI (by omega) (by decide), fun M1 em y ey => ?_⟩
      rw [nI_1] at ey
      subst ey em
      refine l_i212 hz d (t + 1) _ (by omega) (fun M' hf hw => hK M' (frm_sI (frm_mono hf (fun k j h => by omega)) (by omega)) (fun u h1 h2 => ?_))
      by_cases e : u = t
      · subst e; rw [hf 95 _ (by omega), sI_hit]
      · exact hw u (by omega) h2
theorem l_i198 {K : pd_M → Prop} : ∀ (d z : Nat) (M : pd_M), z + d = 4 → (∀ M', frm (fun k j => k = 93 ∨ k = 95) M M' → (∀ y, y < z → M'.1 93 y = M.1 93 y ∧ ∀ u, u < 3 → M'.1 95 (3 * y + u) = M.1 95 (3 * y + u)) → (∀ y, z ≤ y → y < 4 → M'.1 93 y = -1 ∧ ∀ u, u < 3 → M'.1 95 (3 * y + u) = -1) → K M') → lpX9_init_198 K (d + 1) (nI z) M
  | 0, z, M, hd, hK => by
    refine ⟨fun _ => hK M frm_rf (fun y _ => ⟨rfl, fun _ _ => rfl⟩) (fun j h1 h2 => by omega), fun h => absurd ?_ h⟩
    rw [show (4 : Int32) = nI 4 from rfl, n_le (by decide) (by omega)]; omega
  | d + 1, z, M, hd, hK => by
    refine ⟨fun h => absurd h ?_, fun _ => ⟨vp_in_nI (by omega) (by decide), fun M1 em => ⟨4, ?_⟩⟩⟩
    · rw [show (4 : Int32) = nI 4 from rfl, n_le (by decide) (by omega)]; omega
    · rw [q_cl (by omega)] at em
      refine l_i212 (by omega) 3 0 M1 (by omega) (fun M2 f2 v2 y ey => ?_)
      rw [nI_1] at ey
      subst ey
      refine l_i198 d (z + 1) M2 (by omega) (fun M' hf hk hw => hK M' (fun k j q => by rw [hf k j (by omega), f2 k j (by omega), em, sI_ni (by omega)]) (fun y hy => ?_) (fun y h1 h2 => ?_))
      · obtain ⟨k1, k2⟩ := hk y (by omega)
        exact ⟨by rw [k1, f2 93 y (by omega), em, sI_ni (by omega)], fun u hu => by rw [k2 u hu, f2 95 _ (by omega), em, sI_ni (by omega)]⟩
      · by_cases e : y = z
        · subst e
          obtain ⟨k1, k2⟩ := hk y (by omega)
          exact ⟨by rw [k1, f2 93 y (by omega), em, sI_hit], fun u hu => by rw [k2 u hu]; exact v2 u (by omega) hu⟩
        · exact hw y (by omega) h2
theorem pure_main (xs : Nat → Int32) (L : Nat) (hL : L ≤ 3072) : wL_law xs L := by
  refine ⟨6, l_i53 5 0 pd_M0 (by omega) (fun M1 f1 v1 => ⟨5, l_i198 4 0 M1 (by omega) (fun M2 f2 _ v2 => ?_)⟩)⟩
  have z0 : ∀ k j, ¬ (18 ≤ k ∧ k < 23) → ¬ k = 93 → ¬ k = 95 → M2.1 k j = 0 := fun k j q1 q2 q3 => by rw [f2 k j (by omega), f1 k j (by omega)]; rfl
  refine ⟨fun k hk => funext (fun j => ?_), 513, by omega, ?_⟩
  · simp only [List.mem_cons, List.not_mem_nil, or_false] at hk
    exact z0 k j (by omega) (by omega) (by omega)
  · refine l_law xs L hL 512 0 (pd_fin M2) ?_ (by omega) (by omega)
    have g : ∀ k j, ¬ (18 ≤ k ∧ k < 23) → ¬ k = 93 → ¬ k = 95 → ¬ k = 59 → ¬ (k = 82 ∧ j = 16) → (pd_fin M2).1 k j = 0 := fun k j q1 q2 q3 q4 q5 => by
      unfold pd_fin; rw [sI_ni (by omega), sI_ni (by omega)]; exact z0 k j q1 q2 q3
    refine ⟨0, 0, 0, ⟨by omega, by omega, by omega, g 8 0 (by omega) (by omega) (by omega) (by omega) (by omega), g 82 0 (by omega) (by omega) (by omega) (by omega) (by omega), g 24 1 (by omega) (by omega) (by omega) (by omega) (by omega), g 82 6 (by omega) (by omega) (by omega) (by omega) (by omega), g 60 0 (by omega) (by omega) (by omega) (by omega) (by omega), g 82 17 (by omega) (by omega) (by omega) (by omega) (by omega)⟩, ?_, fun s h => by omega, fun s _ h5 => ?_, fun c h => by omega, fun c _ h7 => ?_, ⟨fun i h => by omega, fun i j h => by omega, fun c h => by omega⟩, fun z hz => ?_, fun t h => by omega, fun c s _ _ _ => ?_, fun s _ _ => ?_⟩
    · have e59 : (pd_fin M2).1 59 1 = 100 := by unfold pd_fin; rw [sI_ni (by omega), sI_hit]
      have e82 : (pd_fin M2).1 82 16 = 100 := by unfold pd_fin; rw [sI_hit]
      unfold I_f
      rw [e59, e82]
      exact ⟨by unfold vp_in; decide, by decide, rfl⟩
    · have w : ∀ s o, s < 5 → o < 5 → (pd_fin M2).1 (18 + s) o = if s = o then 0 else 10 := fun s o h1 h2 => by
        unfold pd_fin; rw [sI_ni (by omega), sI_ni (by omega), f2 (18 + s) o (by omega)]; exact v1 s o (by omega) h1 h2
      refine ⟨fun n _ => g (12 + s) n (by omega) (by omega) (by omega) (by omega) (by omega), fun o h => ⟨w s o h5 h, ?_⟩, g 23 s (by omega) (by omega) (by omega) (by omega) (by omega)⟩
      rw [w o s h h5]
      by_cases e : s = o
      · rw [if_pos e, if_pos e.symm]
      · rw [if_neg e, if_neg (fun q => e q.symm)]
    · exact ⟨g 27 c (by omega) (by omega) (by omega) (by omega) (by omega), fun z _ => g (29 + c) z (by omega) (by omega) (by omega) (by omega) (by omega)⟩
    · obtain ⟨w1, w2⟩ := v2 z (by omega) hz
      have e93 : (pd_fin M2).1 93 z = -1 := by unfold pd_fin; rw [sI_ni (by omega), sI_ni (by omega)]; exact w1
      have nh : ∀ h, h < 24 → ¬ hb 0 h := fun h hh q => by rw [hb_bt (by omega), b_0] at q; exact absurd q (by decide)
      have ni : ∀ h b, ¬ inH h (-1) b := fun h b q => absurd q.1 (by decide)
      refine ⟨fun h hh => ?_, fun t ht h hh => ?_⟩
      · rw [g 2 z (by omega) (by omega) (by omega) (by omega) (by omega), e93]
        exact ⟨fun q => absurd q (nh h hh), fun q => absurd q (ni h _)⟩
      · have e95 : (pd_fin M2).1 95 (3 * z + t) = -1 := by unfold pd_fin; rw [sI_ni (by omega), sI_ni (by omega)]; exact w2 t ht
        rw [g (4 + z) t (by omega) (by omega) (by omega) (by omega) (by omega), e95]
        exact ⟨fun q => absurd q (nh h hh), fun q => absurd q (ni h _)⟩
    · exact g (40 + c) s (by omega) (by omega) (by omega) (by omega) (by omega)
    · exact g 47 s (by omega) (by omega) (by omega) (by omega) (by omega)
