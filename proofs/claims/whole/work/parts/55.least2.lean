/-! the desk's way itself -/
abbrev jI (n : Int) : Int64 := Int64.ofInt n
theorem j_toInt {a : Int} (h : -9223372036854775808 ≤ a) (h' : a < 9223372036854775808) : (jI a).toInt = a := Int64.toInt_ofInt_of_le h h'
theorem j_add (a b : Int) : jI a + jI b = jI (a + b) := (Int64.ofInt_add a b).symm
theorem j_sub (a b : Int) : jI a - jI b = jI (a - b) := (Int64.ofInt_sub a b).symm
theorem j_mul (a b : Int) : jI a * jI b = jI (a * b) := (Int64.ofInt_mul a b).symm
theorem j_le {a b : Int} (h1 : -9000000000000000000 ≤ a) (h2 : a ≤ 9000000000000000000) (h3 : -9000000000000000000 ≤ b) (h4 : b ≤ 9000000000000000000) : jI a ≤ jI b ↔ a ≤ b := by
  rw [Int64.le_iff_toInt_le, j_toInt (by omega) (by omega), j_toInt (by omega) (by omega)]
theorem j_eq {a b : Int} (h1 : -9000000000000000000 ≤ a) (h2 : a ≤ 9000000000000000000) (h3 : -9000000000000000000 ≤ b) (h4 : b ≤ 9000000000000000000) : jI a = jI b ↔ a = b := by
  constructor
  · intro h
    have := congrArg Int64.toInt h
    rw [j_toInt (by omega) (by omega), j_toInt (by omega) (by omega)] at this
    exact this
  · intro h; rw [h]
theorem sJ_hit (M : pd_M) (k i : Nat) (v : Int64) : (sJ M k i v).2 k i = v := by rw [sJ_at, if_pos ⟨rfl, rfl⟩]
theorem sJ_ni {M : pd_M} {k i k' i' : Nat} {v : Int64} (h : ¬ (k' = k ∧ i' = i)) : (sJ M k i v).2 k' i' = M.2 k' i' := by rw [sJ_at, if_neg h]
def F57 (M M' : pd_M) : Prop := (∀ k i, ¬ k = 58 → M'.1 k i = M.1 k i) ∧ ∀ k i, ¬ k = 57 → M'.2 k i = M.2 k i
theorem F57_rf {M : pd_M} : F57 M M := ⟨fun _ _ _ => rfl, fun _ _ _ => rfl⟩
theorem F57_st {M M' : pd_M} {q : Nat} {x : Int64} {v : Int32} (h : F57 (sI (sJ M 57 q x) 58 q v) M') : F57 M M' := ⟨fun k i hk => by rw [h.1 k i hk, sI_ni (by omega), sJ_1], fun k i hk => by rw [h.2 k i hk, sI_2, sJ_ni (by omega)]⟩
theorem F57_tr {M M1 M' : pd_M} (h1 : F57 M M1) (h2 : F57 M1 M') : F57 M M' := ⟨fun k i hk => (h2.1 k i hk).trans (h1.1 k i hk), fun k i hk => (h2.2 k i hk).trans (h1.2 k i hk)⟩
def RM (rc : Nat → Int) (cm : Nat → Nat) (M : pd_M) : Prop := ∀ p, p < 6 → M.2 57 p = jI (rc p) ∧ M.1 58 p = nI (cm p)
def prc (al : Nat → Nat → Bool) (P : Nat → Nat → Int) (i p : Nat) : Int := if al i p = true then P i p else -1
def PB (P : Nat → Nat → Int) : Prop := ∀ i p, i < 7 → p < 6 → 0 ≤ P i p ∧ P i p < 300000000
section S17
variable {k : Nat} {f : Nat → Nat} {al : Nat → Nat → Bool} {P : Nat → Nat → Int} {r : Nat}
theorem l_start {K : pd_M → Prop} (hk : k < 7) (hP : PB P) : ∀ (d i : Nat) (M : pd_M), (∀ p, p < 6 → M.2 (50 + k) p = jI (prc al P k p)) → i + d = 6 → (∀ M', F57 M M' → (∀ p, p < i → M'.2 57 p = M.2 57 p ∧ M'.1 58 p = M.1 58 p) → (∀ p, i ≤ p → p < 6 → M'.2 57 p = jI (if al k p = true then P k p else FAR) ∧ M'.1 58 p = nI k) → K M') → lpX1_startAt_2 K (nI k) (d + 1) (nI i) M
  | 0, i, M, hr, hd, hK => by
    refine ⟨fun _ => hK M F57_rf (fun p _ => ⟨rfl, rfl⟩) (fun j h1 h2 => by omega), fun h => absurd ?_ h⟩
    rw [show (6 : Int32) = nI 6 from rfl, n_le (by decide) (by omega)]; omega
  | d + 1, i, M, hr, hd, hK => by
    have v6 : vp_in (nI i) 6 := vp_in_nI (by omega) (by decide)
    have v7 : vp_in (nI k) 7 := vp_in_nI hk (by decide)
    have pb := hP k i hk (by omega)
    refine ⟨fun h => absurd h ?_, fun _ => ⟨v7, v6, ?_⟩⟩
    · rw [show (6 : Int32) = nI 6 from rfl, n_le (by decide) (by omega)]; omega
    rw [q_cl (by omega), q_cl (by omega), hr i (by omega), lg_cmp_eq, show (-1 : Int64) = jI (-1) from rfl]
    have go : ∀ x : Int64, x = jI (if al k i = true then P k i else FAR) → ∀ M1, M1 = sJ M 57 i x → ∀ M2, M2 = sI M1 58 i (nI k) → ∀ y, y = nI i + 1 → lpX1_startAt_2 K (nI k) (d + 1) y M2 := fun x hx M1 e1 M2 e2 y ey => by
      rw [nI_1] at ey
      subst ey e1 e2
      refine l_start hk hP d (i + 1) _ (fun p hp => by rw [sI_2, sJ_ni (by omega)]; exact hr p hp) (by omega) (fun M' hf h1 h2 => hK M' (F57_st hf) (fun p hp => ?_) (fun p hp hp6 => ?_))
      · obtain ⟨a, b⟩ := h1 p (by omega)
        rw [a, b, sI_2, sJ_ni (by omega), sI_ni (by omega), sJ_1]; exact ⟨rfl, rfl⟩
      · by_cases e : p = i
        · subst e
          obtain ⟨a, b⟩ := h1 p (by omega)
          rw [a, b, sI_2, sJ_hit, sI_hit]; exact ⟨hx, rfl⟩
        · exact h2 p (by omega) hp6
    unfold prc
    by_cases q : al k i = true
    · rw [if_pos q]
      refine ⟨fun _ => ⟨v7, v6, v6, fun M1 e1 => ⟨v6, fun M2 e2 y ey => go _ (by rw [if_pos q]) M1 e1 M2 e2 y ey⟩⟩, fun e => ?_⟩
      rw [j_eq (by omega) (by omega) (by omega) (by omega)] at e
      omega
    · rw [if_neg q]
      exact ⟨fun ne => absurd rfl ne, fun _ => ⟨v6, fun M1 e1 => ⟨v6, fun M2 e2 y ey => go _ (by rw [if_neg q]; rfl) M1 e1 M2 e2 y ey⟩⟩⟩
theorem X1_startAt_w {Q : pd_M → Prop} {M : pd_M} (hk : k < 7) (hP : PB P) (hr : ∀ p, p < 6 → M.2 (50 + k) p = jI (prc al P k p)) (hQ : ∀ M', F57 M M' → RM (fun p => if al k p = true then P k p else FAR) (fun _ => k) M' → RS k f al P (fun p => if al k p = true then P k p else FAR) (fun _ => k) (fun _ => 0) (fun _ => 0) 0 0 300000000 → Q M') : wX1_startAt Q (nI k) M := by
  refine ⟨7, l_start hk hP 6 0 M hr (by omega) (fun M' hf _ h2 => hQ M' hf (fun p hp => h2 p (by omega) hp) ⟨fun p hp => ?_, fun p hp ha => ?_, fun q hq hn => ?_, fun p hp => ⟨Nat.le_refl _, Nat.le_refl _⟩⟩)⟩
  · have := hP k p hk hp
    by_cases q : al k p = true
    · simp only [q, if_true]; right; omega
    · simp only [q]; left; rfl
  · simp only [ha, if_true]; exact Int.le_refl _
  · by_cases a : al k q = true
    · simp only [a, if_true]; left; simp
    · simp only [a] at hn; exact absurd rfl hn
theorem l_pass {K : Int32 → pd_M → Prop} {i : Nat} {B : Int} {sg0 : Nat → Nat} (hk : k < 7) (hP : PB P) (hi : i < k) (hf : ∀ i, i < k → f i < 6) (haf : al i (f i) = true) (hB : 0 ≤ B) (hB' : B + 300000000 ≤ 50000000000) : ∀ (d q : Nat) (rc : Nat → Int) (cm tu sg : Nat → Nat) (T : Nat) (v : Int32) (M : pd_M), (∀ p, p < 6 → M.2 (50 + i) p = jI (prc al P i p)) → q + d = 6 → RM rc cm M → RS k f al P rc cm tu sg T r (B + 300000000) → ¬ rc (f i) = FAR → -B ≤ rc (f i) → rc (f i) ≤ B → ((∀ q', q ≤ q' → q' < 6 → al i q' = true → rc q' ≤ rc (f i) - P i (f i) + P i q') ∨ r ≤ sg (f i) + 1) → (∀ q', q' < q → al i q' = true → rc q' ≤ rc (f i) - P i (f i) + P i q') → (∀ i', i' < k → EQc f al P rc i' ∨ r ≤ sg (f i') + 1) → (∀ i', i' < i → EQc f al P rc i' ∨ r ≤ sg (f i')) → ((v = 0 ∧ ∀ p, p < 6 → sg p = sg0 p) ∨ v = 1) → (∀ rc' cm' tu' sg' T' v' M', F57 M M' → RM rc' cm' M' → RS k f al P rc' cm' tu' sg' T' r (B + 300000000) → (∀ i', i' < k → EQc f al P rc' i' ∨ r ≤ sg' (f i') + 1) → (∀ i', i' < i + 1 → EQc f al P rc' i' ∨ r ≤ sg' (f i')) → ((v' = 0 ∧ ∀ p, p < 6 → sg' p = sg0 p) ∨ v' = 1) → K v' M') → lpX1_passOn_20 K (nI i) (nI (f i)) (d + 1) v (nI q) M
  | 0, q, rc, cm, tu, sg, T, v, M, hr, hd, hM, hS, hfar, hb1, hb2, hor, hdone, hc1, hc2, hv, hK => by
    refine ⟨fun _ => hK rc cm tu sg T v M F57_rf hM hS hc1 (fun i' hi' => ?_) hv, fun h => absurd ?_ h⟩
    · by_cases e : i' = i
      · subst e; exact Or.inl (fun _ q' hq' ha => hdone q' (by omega) ha)
      · exact hc2 i' (by omega)
    · rw [show (6 : Int32) = nI 6 from rfl, n_le (by decide) (by omega)]; omega
  | d + 1, q, rc, cm, tu, sg, T, v, M, hr, hd, hM, hS, hfar, hb1, hb2, hor, hdone, hc1, hc2, hv, hK => by
    have hfi := hf i hi
    have v6 : vp_in (nI q) 6 := vp_in_nI (by omega) (by decide)
    have vf : vp_in (nI (f i)) 6 := vp_in_nI hfi (by decide)
    have v7 : vp_in (nI i) 7 := vp_in_nI (by omega) (by decide)
    have p1 := hP i q (by omega) (by omega)
    have p2 := hP i (f i) (by omega) hfi
    have bq := hS.1 q (by omega)
    have hFAR : FAR = 1000000000000000 := rfl
    refine ⟨fun h => absurd h ?_, fun _ => ⟨vf, v7, vf, v7, v6, fun x ex => ⟨v7, v6, ?_⟩⟩⟩
    · rw [show (6 : Int32) = nI 6 from rfl, n_le (by decide) (by omega)]; omega
    rw [q_cl (by omega), q_cl (by omega), q_cl (by omega), (hM _ hfi).1, hr _ hfi, hr q (by omega)] at ex
    rw [q_cl (by omega), q_cl (by omega), hr q (by omega), lg_cmp_eq, show (-1 : Int64) = jI (-1) from rfl, (hM q (by omega)).1, lg_cmp_ge]
    have stay : (al i q = true → rc q ≤ rc (f i) - P i (f i) + P i q) → ∀ y, y = nI q + 1 → lpX1_passOn_20 K (nI i) (nI (f i)) (d + 1) v y M := fun hle y ey => by
      rw [nI_1] at ey; subst ey
      refine l_pass hk hP hi hf haf hB hB' d (q + 1) rc cm tu sg T v M hr (by omega) hM hS hfar hb1 hb2 (hor.imp (fun h q' h1 h2 => h q' (by omega) h2) id) (fun q' h1 ha => ?_) hc1 hc2 hv hK
      by_cases e : q' = q
      · subst e; exact hle ha
      · exact hdone q' (by omega) ha
    unfold prc at ex ⊢
    rw [if_pos haf] at ex
    by_cases ha : al i q = true
    · rw [if_pos ha] at ex ⊢
      rw [j_sub, j_add] at ex
      subst ex
      rw [j_eq (by omega) (by omega) (by omega) (by omega), j_le (by omega) (by omega) (by omega) (by omega)]
      refine ⟨fun e => by omega, fun _ => ⟨v6, fun h => stay (fun _ => h), fun h => ⟨v6, fun M1 e1 => ⟨v6, fun M2 e2 y ey => ?_⟩⟩⟩⟩
      rw [nI_1] at ey
      subst ey e1 e2
      have hne : ¬ f i = q := fun e => by rw [e] at h; omega
      have hlt : rc (f i) - P i (f i) + P i q < rc q := by omega
      have hrs : r ≤ sg (f i) + 1 := hor.resolve_left (fun q' => by have := q' q (Nat.le_refl _) (by omega) ha; omega)
      have hS' := RS_up hS hi (show q < 6 by omega) ha hfar hfi rfl hlt (B' := B + 300000000) (by omega) (by omega) (by omega) (by omega) hrs
      have ecar : ∀ i', i' < k → EQc f al P rc i' ∨ r ≤ sg (f i') + 1 → EQc f al P (up rc q (rc (f i) - P i (f i) + P i q)) i' ∨ r ≤ up sg q r (f i') + 1 := fun i' hi' h0 => by
        by_cases e : f i' = q
        · rw [e, up_hit]; right; omega
        · rw [up_ne sg r e]; exact h0.imp (fun h => EQ_up h e hlt) id
      have ecar2 : ∀ i', i' < k → EQc f al P rc i' ∨ r ≤ sg (f i') → EQc f al P (up rc q (rc (f i) - P i (f i) + P i q)) i' ∨ r ≤ up sg q r (f i') := fun i' hi' h0 => by
        by_cases e : f i' = q
        · rw [e, up_hit]; right; omega
        · rw [up_ne sg r e]; exact h0.imp (fun h => EQ_up h e hlt) id
      refine l_pass hk hP hi hf haf hB hB' d (q + 1) _ _ _ _ (T + 1) 1 _ (fun p hp => by rw [sI_2, sJ_ni (by omega)]; exact hr p hp) (by omega) (fun p hp => ?_) hS' ?_ ?_ ?_ (Or.inr ?_) (fun q' h1 ha' => ?_) (fun i' hi' => ecar i' hi' (hc1 i' hi')) (fun i' hi' => ecar2 i' (by omega) (hc2 i' hi')) (Or.inr rfl) (fun rc' cm' tu' sg' T' v' M' hF => hK rc' cm' tu' sg' T' v' M' (F57_st hF))
      · by_cases e : p = q
        · subst e; rw [sI_2, sJ_hit, sI_hit, up_hit, up_hit]; exact ⟨rfl, rfl⟩
        · rw [sI_2, sJ_ni (by omega), sI_ni (by omega), sJ_1, up_ne rc _ e, up_ne cm _ e]; exact hM p hp
      · rw [up_ne rc _ hne]; exact hfar
      · rw [up_ne rc _ hne]; exact hb1
      · rw [up_ne rc _ hne]; exact hb2
      · rw [up_ne sg r hne]; exact hrs
      · rw [up_ne rc _ hne]
        by_cases e : q' = q
        · subst e; rw [up_hit]; exact Int.le_refl _
        · rw [up_ne rc _ e]; exact hdone q' (by omega) ha'
    · rw [if_neg ha]
      exact ⟨fun _ => stay (fun h => absurd h ha), fun ne => absurd rfl ne⟩
theorem RS_mono {rc : Nat → Int} {cm tu sg : Nat → Nat} {T r' : Nat} {B B' : Int} (h : RS k f al P rc cm tu sg T r B) (hr : r ≤ r') (hB : B ≤ B') : RS k f al P rc cm tu sg T r' B' := by
  obtain ⟨a1, a2, a3, a4⟩ := h
  exact ⟨fun p hp => (a1 p hp).imp id (fun q => by omega), a2, a3, fun p hp => ⟨(a4 p hp).1, Nat.le_trans (a4 p hp).2 hr⟩⟩
theorem l_add29 {K : Int32 → pd_M → Prop} {f5 : Int32} (hk : k < 7) (hP : PB P) (hf : ∀ i, i < k → f i < 6 ∧ al i (f i) = true) : ∀ (d i : Nat) (rc : Nat → Int) (cm tu sg : Nat → Nat) (T n : Nat) (v : Int32) (M : pd_M), (∀ j, j < k → M.1 38 j = nI (f j)) → (∀ j p, j < k → p < 6 → M.2 (50 + j) p = jI (prc al P j p)) → i + d = k → n + d ≤ 100 → RM rc cm M → RS k f al P rc cm tu sg T r (300000000 * ((n : Int) + 1)) → (∀ i', i' < k → EQc f al P rc i' ∨ r ≤ sg (f i') + 1) → (∀ i', i' < i → EQc f al P rc i' ∨ r ≤ sg (f i')) → ((v = 0 ∧ ∀ p, p < 6 → sg p < r) ∨ v = 1) → (∀ rc' cm' tu' sg' T' v' M', F57 M M' → RM rc' cm' M' → RS k f al P rc' cm' tu' sg' T' r (300000000 * ((n : Int) + d + 1)) → (∀ i', i' < k → EQc f al P rc' i' ∨ r ≤ sg' (f i')) → ((v' = 0 ∧ ∀ p, p < 6 → sg' p < r) ∨ v' = 1) → K v' M') → lpX1_add_29 K (nI k) f5 (d + 1) v (nI i) M
  | 0, i, rc, cm, tu, sg, T, n, v, M, h38, hpr, hd, hn, hM, hS, hc1, hc2, hv, hK => by
    obtain rfl : i = k := by omega
    refine ⟨fun _ => hK rc cm tu sg T v M F57_rf hM (RS_mono hS (Nat.le_refl _) (by omega)) hc2 hv, fun h => absurd ?_ h⟩
    rw [n_le (by omega) (by omega)]; omega
  | d + 1, i, rc, cm, tu, sg, T, n, v, M, h38, hpr, hd, hn, hM, hS, hc1, hc2, hv, hK => by
    obtain ⟨hfi, haf⟩ := hf i (by omega)
    refine ⟨fun h => absurd h ?_, fun _ => ⟨vp_in_nI (by omega) (by decide), ?_⟩⟩
    · rw [n_le (by omega) (by omega)]; omega
    rw [q_cl (by omega), h38 i (by omega)]
    refine ⟨vp_in_nI hfi (by decide), ?_⟩
    rw [q_cl (by omega), (hM _ hfi).1, lg_cmp_eq, show (1000000000000000 : Int64) = jI FAR from rfl]
    have hFAR : FAR = 1000000000000000 := rfl
    have bq := hS.1 _ hfi
    rw [j_eq (by omega) (by omega) (by omega) (by omega)]
    have cont : ∀ rc' cm' tu' sg' T' v' M', F57 M M' → RM rc' cm' M' → RS k f al P rc' cm' tu' sg' T' r (300000000 * ((n : Int) + 1) + 300000000) → (∀ i', i' < k → EQc f al P rc' i' ∨ r ≤ sg' (f i') + 1) → (∀ i', i' < i + 1 → EQc f al P rc' i' ∨ r ≤ sg' (f i')) → ((v' = 0 ∧ ∀ p, p < 6 → sg' p < r) ∨ v' = 1) → lpX1_add_29 K (nI k) f5 (d + 1) v' (nI (i + 1)) M' := by
      intro rc' cm' tu' sg' T' v' M' hF hM' hS' h1 h2 hv'
      refine l_add29 hk hP hf d (i + 1) rc' cm' tu' sg' T' (n + 1) v' M' (fun j hj => by rw [hF.1 38 j (by omega)]; exact h38 j hj) (fun j p hj hp => by rw [hF.2 _ p (by omega)]; exact hpr j p hj hp) (by omega) (by omega) hM' (RS_mono hS' (Nat.le_refl _) (by omega)) h1 h2 hv' (fun rc2 cm2 tu2 sg2 T2 v2 M2 hF2 hM2 hS2 => hK rc2 cm2 tu2 sg2 T2 v2 M2 (F57_tr hF hF2) hM2 (RS_mono hS2 (Nat.le_refl _) (by omega)))
    refine ⟨fun nf => ⟨7, ?_⟩, fun ef => q_z0 (fun y ey => ?_)⟩
    · obtain ⟨b1, b2⟩ := bq.resolve_left nf
      refine l_pass (sg0 := sg) hk hP (show i < k by omega) (fun j hj => (hf j hj).1) haf (by omega) (by omega) 6 0 rc cm tu sg T 0 M (fun p hp => hpr i p (by omega) hp) (by omega) hM (RS_mono hS (Nat.le_refl _) (by omega)) nf b1 b2 ((hc1 i (by omega)).imp (fun h q' _ h2 ha => h nf q' h2 ha) id) (fun q' h => by omega) hc1 hc2 (Or.inl ⟨rfl, fun p _ => rfl⟩) (fun rc' cm' tu' sg' T' v' M' hF hM' hS' h1 h2 hv' => ?_)
      rcases hv' with ⟨e0, es⟩ | e1
      · subst e0
        refine ⟨q_b0, q_z0 (fun y ey => ?_)⟩
        rw [nI_1] at ey; subst ey
        exact cont rc' cm' tu' sg' T' v M' hF hM' hS' h1 h2 (hv.imp (fun ⟨a, b⟩ => ⟨a, fun p hp => by rw [es p hp]; exact b p hp⟩) id)
      · subst e1
        refine ⟨q_b1, q_z1 (fun y ey => ?_)⟩
        rw [nI_1] at ey; subst ey
        exact cont rc' cm' tu' sg' T' 1 M' hF hM' hS' h1 h2 (Or.inr rfl)
    · rw [nI_1] at ey; subst ey
      refine cont rc cm tu sg T v M F57_rf hM (RS_mono hS (Nat.le_refl _) (by omega)) hc1 (fun i' hi' => ?_) hv
      by_cases e : i' = i
      · subst e; exact Or.inl (fun nf => absurd ef nf)
      · exact hc2 i' (by omega)
theorem l_add11 {K : pd_M → Prop} {pi : Nat → Int} (hk : k < 7) (hP : PB P) (hf : ∀ i, i < k → f i < 6 ∧ al i (f i) = true) (hpi : ∀ i q, i < k → q < 6 → al i q = true → pi q ≤ pi (f i) - P i (f i) + P i q) : ∀ (d r : Nat) (rc : Nat → Int) (cm tu sg : Nat → Nat) (T : Nat) (v : Int32) (M : pd_M), (∀ j, j < k → M.1 38 j = nI (f j)) → (∀ j p, j < k → p < 6 → M.2 (50 + j) p = jI (prc al P j p)) → r + d = 6 → RM rc cm M → RS k f al P rc cm tu sg T r (300000000 * (((7 * r : Nat) : Int) + 1)) → (∀ i', i' < k → EQc f al P rc i' ∨ r ≤ sg (f i')) → ((v = 0 ∧ ∀ i', i' < k → EQc f al P rc i') ∨ v = 1) → (∀ rc' cm' tu' sg' T' r' M', F57 M M' → RM rc' cm' M' → RS k f al P rc' cm' tu' sg' T' r' 50000000000 → (∀ i', i' < k → EQc f al P rc' i') → K M') → lpX1_add_11 K (nI k) (d + 1) v (nI r) M
  | d, r, rc, cm, tu, sg, T, v, M, h38, hpr, hd, hM, hS, hc, hv, hK => by
    rcases hv with ⟨e0, hE⟩ | e1
    · subst e0
      exact q_z0 (hK rc cm tu sg T r M F57_rf hM (RS_mono hS (Nat.le_refl _) (by omega)) hE)
    · subst e1
      match d, hd with
      | 0, hd =>
        refine q_z1 (q_pos ?_ ?_)
        · rw [show (6 : Int32) = nI 6 from rfl, n_le (by decide) (by omega)]; omega
        · refine hK rc cm tu sg T r M F57_rf hM (RS_mono hS (Nat.le_refl _) (by omega)) (fun i' hi' => ?_)
          rcases hc i' hi' with h | h
          · exact h
          · intro nf
            have := sg_five hS (fun i hi => (hf i hi).1) hpi (f i') (hf i' hi').1 nf
            omega
      | d + 1, hd =>
        refine q_z1 (q_neg ?_ ⟨k + 1, ?_⟩)
        · rw [show (6 : Int32) = nI 6 from rfl, n_le (by decide) (by omega)]; omega
        · refine l_add29 (r := r + 1) hk hP hf k 0 rc cm tu sg T (7 * r) 0 M h38 hpr (by omega) (by omega) hM (RS_mono hS (by omega) (by omega)) (fun i' hi' => (hc i' hi').imp id (fun h => by omega)) (fun i' h => by omega) (Or.inl ⟨rfl, fun p hp => by have := (hS.2.2.2 p hp).2; omega⟩) (fun rc' cm' tu' sg' T' v' M' hF hM' hS' h2 hv' y ey => ?_)
          rw [nI_1] at ey; subst ey
          refine l_add11 hk hP hf hpi d (r + 1) rc' cm' tu' sg' T' v' M' (fun j hj => by rw [hF.1 38 j (by omega)]; exact h38 j hj) (fun j p hj hp => by rw [hF.2 _ p (by omega)]; exact hpr j p hj hp) (by omega) hM' (RS_mono hS' (Nat.le_refl _) (by omega)) h2 (hv'.imp (fun ⟨a, b⟩ => ⟨a, fun i' hi' => (h2 i' hi').resolve_right (fun q => by have := b _ (hf i' hi').1; omega)⟩) id) (fun rc2 cm2 tu2 sg2 T2 r2 M2 hF2 => hK rc2 cm2 tu2 sg2 T2 r2 M2 (F57_tr hF hF2))
theorem l_cheap {K : Int32 → pd_M → Prop} {M : pd_M} {rc : Nat → Int} {cm lf : Nat → Nat} (hM : RM rc cm M) (hb : ∀ p, p < 6 → -2000000000000000 ≤ rc p ∧ rc p ≤ 2000000000000000) (hl : ∀ p, p < 6 → M.1 47 p = nI (lf p) ∧ lf p ≤ 7) (hK : ∀ e, e < 6 → (e = 5 ∨ 0 < lf e) → (∀ p, p < 6 → (p = 5 ∨ 0 < lf p) → rc e ≤ rc p) → K (nI e) M) : ∀ (d i e : Nat), i + d = 5 → e < 6 → (e = 5 ∨ 0 < lf e) → rc e ≤ rc 5 → (∀ p, p < i → 0 < lf p → rc e ≤ rc p) → lpX1_cheapestEnd_4 K (d + 1) (nI e) (nI i) M
  | 0, i, e, hd, he, ho, h5, hm => by
    refine ⟨fun _ => hK e he ho (fun p hp hop => ?_), fun h => absurd ?_ h⟩
    · by_cases q : p = 5
      · subst q; exact h5
      · exact hm p (by omega) (hop.resolve_left q)
    · rw [show (5 : Int32) = nI 5 from rfl, n_le (by decide) (by omega)]; omega
  | d + 1, i, e, hd, he, ho, h5, hm => by
    have v6 : vp_in (nI i) 6 := vp_in_nI (by omega) (by decide)
    obtain ⟨l1, l2⟩ := hl i (by omega)
    have b1 := hb i (by omega)
    have b2 := hb e he
    refine ⟨fun h => absurd h ?_, fun _ => ⟨v6, ?_⟩⟩
    · rw [show (5 : Int32) = nI 5 from rfl, n_le (by decide) (by omega)]; omega
    rw [q_cl (by omega), q_cl (by omega), l1, show (0 : Int32) = nI 0 from rfl, n_le (by omega) (by omega), (hM i (by omega)).1, (hM e he).1, show nI 0 = (0 : Int32) from rfl, lg_cmp_ge, j_le (by omega) (by omega) (by omega) (by omega)]
    refine ⟨fun h y ey => ?_, fun h => ⟨v6, vp_in_nI he (by decide), fun h2 y ey => ?_, fun h2 y ey => ?_⟩⟩
    · rw [nI_1] at ey; subst ey
      refine l_cheap hM hb hl hK d (i + 1) e (by omega) he ho h5 (fun p hp hlp => ?_)
      by_cases q : p = i
      · subst q; omega
      · exact hm p (by omega) hlp
    · rw [nI_1] at ey; subst ey
      refine l_cheap hM hb hl hK d (i + 1) e (by omega) he ho h5 (fun p hp hlp => ?_)
      by_cases q : p = i
      · subst q; exact h2
      · exact hm p (by omega) hlp
    · rw [nI_1] at ey; subst ey
      refine l_cheap hM hb hl hK d (i + 1) i (by omega) (by omega) (Or.inr (by omega)) (by omega) (fun p hp hlp => ?_)
      by_cases q : p = i
      · subst q; exact Int.le_refl _
      · have := hm p (by omega) hlp; omega
end S17
