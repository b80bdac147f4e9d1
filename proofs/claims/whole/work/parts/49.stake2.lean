theorem n_mod {a b : Nat} (ha : a < 2 ^ 30) (h0 : 0 < b) (hb : b < 2 ^ 30) : nI a - nI a / nI b * nI b = nI (a % b) := by
  rw [pk_div (by omega) h0 (by omega), pk_mul, n_sub (Nat.div_mul_le_self a b) ha]
  have h := Nat.div_add_mod a b
  rw [Nat.mul_comm] at h
  congr 1
  omega
theorem gcd_st (a b : Nat) : Nat.gcd a b = Nat.gcd b (a % b) := by rw [Nat.gcd_comm a b, Nat.gcd_rec b a, Nat.gcd_comm]
section S10
variable {M : pd_M}
theorem l_gcdX {K : Int32 → pd_M → Prop} : ∀ (k e a b i : Nat), a < 2 ^ 30 → b < 2 ^ k → b < 2 ^ 30 → i + 2 * k < 64 → K (nI (Nat.gcd a b)) M → lpX3_commonDivisor_7 K (2 * k + 1 + e) (nI a) (nI b) (nI i) M
  | 0, e, a, b, i, ha, hb, hb', hi, hK => by
    obtain rfl : b = 0 := by omega
    rw [show 2 * 0 + 1 + e = e + 1 by omega]
    rw [Nat.gcd_zero_right] at hK
    refine ⟨fun h => absurd h ?_, fun _ => ⟨fun _ => hK, fun h => absurd rfl h⟩⟩
    rw [show (64 : Int32) = nI 64 from rfl, n_le (by omega) (by omega)]; omega
  | k + 1, e, a, b, i, ha, hb, hb', hi, hK => by
    rw [show 2 * (k + 1) + 1 + e = (2 * k + 1 + e) + 1 + 1 by omega]
    by_cases q : b = 0
    · subst q
      rw [Nat.gcd_zero_right] at hK
      refine ⟨fun h => absurd h ?_, fun _ => ⟨fun _ => hK, fun h => absurd rfl h⟩⟩
      rw [show (64 : Int32) = nI 64 from rfl, n_le (by omega) (by omega)]; omega
    · have hbn : ¬ nI b = 0 := fun h => q (q_inj (b := 0) (by omega) (by omega) h)
      refine ⟨fun h => absurd h ?_, fun _ => ⟨fun h => absurd h hbn, fun _ => ⟨hbn, fun x ex y ey => ?_⟩⟩⟩
      · rw [show (64 : Int32) = nI 64 from rfl, n_le (by omega) (by omega)]; omega
      rw [n_mod ha (by omega) hb'] at ex
      rw [nI_1] at ey
      subst ex ey
      have hr : a % b < b := Nat.mod_lt a (by omega)
      rw [gcd_st] at hK
      by_cases q2 : a % b = 0
      · rw [q2] at hK ⊢
        rw [Nat.gcd_zero_right] at hK
        refine ⟨fun h => absurd h ?_, fun _ => ⟨fun _ => hK, fun h => absurd rfl h⟩⟩
        rw [show (64 : Int32) = nI 64 from rfl, n_le (by omega) (by omega)]; omega
      · have hrn : ¬ nI (a % b) = 0 := fun h => q2 (q_inj (b := 0) (by omega) (by omega) h)
        refine ⟨fun h => absurd h ?_, fun _ => ⟨fun h => absurd h hrn, fun _ => ⟨hrn, fun x ex y ey => ?_⟩⟩⟩
        · rw [show (64 : Int32) = nI 64 from rfl, n_le (by omega) (by omega)]; omega
        rw [n_mod hb' (by omega) (by omega)] at ex
        rw [nI_1] at ey
        subst ex ey
        rw [gcd_st] at hK
        have h1 : b % (a % b) < a % b := Nat.mod_lt b (by omega)
        have h2 : b % (a % b) + a % b ≤ b := by
          have e1 := Nat.div_add_mod b (a % b)
          have e2 : 1 ≤ b / (a % b) := (Nat.le_div_iff_mul_le (by omega)).mpr (by omega)
          have e3 := Nat.mul_le_mul_left (a % b) e2
          omega
        have h3 : 2 ^ (k + 1) = 2 * 2 ^ k := by rw [Nat.pow_succ, Nat.mul_comm]
        exact l_gcdX k e (a % b) (b % (a % b)) (i + 1 + 1) (by omega) (by omega) (by omega) (by omega) hK
theorem l_gcdM {K : Int32 → pd_M → Prop} : ∀ (f a b : Nat), a < 2 ^ 30 → b < 2 ^ 30 → b < f → K (nI (Nat.gcd a b)) M → lpX9_common_4 K f (nI a) (nI b) M
  | 0, a, b, ha, hb, hf, hK => by omega
  | f + 1, a, b, ha, hb, hf, hK => by
    by_cases q : b = 0
    · subst q
      rw [Nat.gcd_zero_right] at hK
      exact ⟨fun _ => hK, fun h => absurd rfl h⟩
    · have hbn : ¬ nI b = 0 := fun h => q (q_inj (b := 0) (by omega) (by omega) h)
      refine ⟨fun h => absurd h hbn, fun _ => ⟨hbn, fun x ex => ?_⟩⟩
      rw [n_mod ha (by omega) hb] at ex
      subst ex
      rw [gcd_st] at hK
      have hr : a % b < b := Nat.mod_lt a (by omega)
      exact l_gcdM f b (a % b) hb (by omega) (by omega) hK
theorem X3_init_pos {Q : Int32 → Int32 → pd_M → Prop} {a b : Nat} (ha0 : 0 < a) (hb0 : 0 < b) (ha : a < 2 ^ 20) (hb : b < 2 ^ 20) (hQ : Q (nI (a / Nat.gcd a b)) (nI (b / Nat.gcd a b)) M) : wX3_init Q (nI a) (nI b) M := by
  have np : ∀ x : Nat, 0 < x → x < 2 ^ 20 → ¬ nI x ≤ 0 := fun x h0 h h' => by
    rw [show (0 : Int32) = nI 0 from rfl, n_le (by omega) (by omega)] at h'
    omega
  have g0 : 0 < Nat.gcd a b := Nat.gcd_pos_of_pos_left b ha0
  have gl : Nat.gcd a b ≤ a := Nat.gcd_le_left b ha0
  have ng := np _ g0 (by omega)
  have ngz : ¬ nI (Nat.gcd a b) = 0 := fun h => by rw [h] at ng; exact ng (by decide)
  refine q_neg (np a ha0 ha) (q_neg (np b hb0 hb) ⟨2 * 20 + 1 + 0, l_gcdX 20 0 a b 0 (by omega) hb (by omega) (by omega) (q_neg ng ⟨ngz, q_neg ng ⟨ngz, ?_⟩⟩)⟩)
  rw [pk_div (by omega) g0 (by omega), pk_div (by omega) g0 (by omega)]
  exact hQ
theorem X3_init_non {Q : Int32 → Int32 → pd_M → Prop} {a b : Int32} (ha : a ≤ 0) (hQ : Q 0 1 M) : wX3_init Q a b M :=
  q_pos ha (q_pos (by decide) (q_pos (by decide) hQ))
theorem X9_part_pos {Q : Int32 → pd_M → Prop} {a b : Nat} {a2 : Int32} (ha0 : 0 < a) (ha : a < 2 ^ 20) (hb : b < 2 ^ 20) (h0 : a2 = 0 → Q (nI (a / Nat.gcd a b)) M) (h1 : ¬ a2 = 0 → Q (nI (b / Nat.gcd a b)) M) : wX9_part Q (nI a) (nI b) a2 M := by
  have g0 : 0 < Nat.gcd a b := Nat.gcd_pos_of_pos_left b ha0
  have gl : Nat.gcd a b ≤ a := Nat.gcd_le_left b ha0
  have ngz : ¬ nI (Nat.gcd a b) = 0 := fun h => by have := q_inj (b := 0) (by omega) (by omega) h; omega
  refine q_pos ?_ ⟨fun ne => ⟨b + 1, l_gcdM (b + 1) a b (by omega) (by omega) (by omega) ⟨ngz, ?_⟩⟩, fun e => ⟨b + 1, l_gcdM (b + 1) a b (by omega) (by omega) (by omega) ⟨ngz, ?_⟩⟩⟩
  · rw [show (0 : Int32) = nI 0 from rfl, n_lt (by omega) (by omega)]; exact ha0
  · rw [pk_div (by omega) g0 (by omega)]; exact h1 ne
  · rw [pk_div (by omega) g0 (by omega)]; exact h0 e
theorem X9_part_non {Q : Int32 → pd_M → Prop} {a b a2 : Int32} (ha : ¬ 0 < a) (hQ : Q a2 M) : wX9_part Q a b a2 M := q_neg ha hQ
end S10
theorem mul_bd {a b A B : Int} (h1 : -A ≤ a) (h2 : a ≤ A) (h3 : 0 ≤ b) (h4 : b ≤ B) (hA : 0 ≤ A) : -(A * B) ≤ a * b ∧ a * b ≤ A * B := by
  have e1 : a * b ≤ A * b := Int.mul_le_mul_of_nonneg_right h2 h3
  have e2 : A * b ≤ A * B := Int.mul_le_mul_of_nonneg_left h4 hA
  have e3 : -A * b ≤ a * b := Int.mul_le_mul_of_nonneg_right h1 h3
  rw [Int.neg_mul] at e3
  omega
def gOK (G : Nat → Int) (n : Nat) (F : Int) : Prop := n ≤ 5 ∧ (∀ j, j < n → 0 ≤ G j ∧ G j ≤ 99) ∧ 1 ≤ F ∧ F ≤ 500
theorem sZ_bd {f : Nat → Int} {n : Nat} {k : Int} (h : ∀ j, j < n → 0 ≤ f j ∧ f j ≤ k) : 0 ≤ sZ f 0 n ∧ sZ f 0 n ≤ k * n := by
  have h1 := sZ_le (fun _ => 0) f n 0 (fun j _ q => (h j (by omega)).1)
  have h2 := sZ_le f (fun _ => k) n 0 (fun j _ q => (h j (by omega)).2)
  rw [sZ_const] at h1 h2
  omega
theorem tX_bd {G : Nat → Int} {n : Nat} {F : Int} (hG : gOK G n F) (s : Nat) : 0 ≤ tX G n s ∧ tX G n s ≤ 495 := by
  have := sZ_bd (f := fun i => if G i < G s then 0 else G i) (n := n) (k := 99) (fun j hj => by
    have := hG.2.1 j hj
    show 0 ≤ (if G j < G s then 0 else G j) ∧ (if G j < G s then 0 else G j) ≤ 99
    split <;> omega)
  have := hG.1
  unfold tX
  omega
theorem tC_bd {G : Nat → Int} {n : Nat} {F : Int} (hG : gOK G n F) (s : Nat) : 0 ≤ tC G n s ∧ tC G n s ≤ 5 := by
  have := sZ_bd (f := fun i => if G i < G s then 0 else 1) (n := n) (k := 1) (fun j hj => by
    show 0 ≤ (if G j < G s then (0 : Int) else 1) ∧ (if G j < G s then (0 : Int) else 1) ≤ 1
    split <;> omega)
  have := hG.1
  unfold tC
  omega
theorem tC_pos {G : Nat → Int} {n s : Nat} (hs : s < n) : 1 ≤ tC G n s := by
  have := sZ_ge (f := fun i => if G i < G s then 0 else 1) (j := s) n 0 (fun k => by
    show 0 ≤ (if G k < G s then (0 : Int) else 1)
    split <;> omega) (by omega) (by omega)
  unfold tC
  rw [if_neg (Int.lt_irrefl _)] at this
  exact this
theorem mX_bd {G : Nat → Int} {n : Nat} {F : Int} (hG : gOK G n F) (m : Nat) : 0 ≤ mX G n m ∧ mX G n m ≤ 495 := by
  have := sZ_bd (f := fun i => bi m i * G i) (n := n) (k := 99) (fun j hj => by
    have h1 := hG.2.1 j hj
    have h2 := bi_01 m j
    have : bi m j = 0 ∨ bi m j = 1 := by omega
    show 0 ≤ bi m j * G j ∧ bi m j * G j ≤ 99
    rcases this with e | e <;> rw [e] <;> omega)
  have := hG.1
  unfold mX
  omega
theorem mC_bd {G : Nat → Int} {n : Nat} {F : Int} (hG : gOK G n F) (m : Nat) : 0 ≤ mC n m ∧ mC n m ≤ 5 := by
  have := sZ_bd (f := fun i => bi m i) (n := n) (k := 1) (fun j hj => bi_01 m j)
  have := hG.1
  unfold mC
  omega
def dOK (G : Nat → Int) (n : Nat) (F : Int) (s u w : Nat) : Prop := u ≤ 495 ∧ 1 ≤ w ∧ w ≤ 5 ∧ Nat.gcd u w = 1 ∧ ((u = 0 ∧ w = 1) ∨ ∃ t g : Nat, t < n ∧ 0 < g ∧ tX G n t - F = (g : Int) * u ∧ tC G n t = (g : Int) * w) ∧ ∀ t, t < s → (tX G n t - F) * w ≤ u * tC G n t
def mOK (G : Nat → Int) (n : Nat) (F : Int) (m : Nat) (A B : Int) : Prop := 0 ≤ A ∧ A ≤ 495 ∧ 1 ≤ B ∧ B ≤ 5 ∧ ((A = 0 ∧ B = 1) ∨ ∃ k, 1 ≤ k ∧ k < 2 ^ n ∧ mX G n k - F = A ∧ mC n k = B) ∧ ∀ k, 1 ≤ k → k < m → (mX G n k - F) * B ≤ A * mC n k
theorem dm_eq {G : Nat → Int} {n : Nat} {F : Int} {u w : Nat} {A B : Int} (hG : gOK G n F) (hd : dOK G n F n u w) (hm : mOK G n F (2 ^ n) A B) : (u : Int) * B = A * w := by
  obtain ⟨d1, d2, d3, d4, d5, d6⟩ := hd
  obtain ⟨m1, m2, m3, m4, m5, m6⟩ := hm
  apply Int.le_antisymm
  · rcases d5 with ⟨e1, e2⟩ | ⟨t, g, h1, h2, h3, h4⟩
    · rw [e1, e2]
      have := Int.mul_nonneg m1 (show (0 : Int) ≤ ((1 : Nat) : Int) by omega)
      show 0 * B ≤ _
      rw [Int.zero_mul]; exact this
    · obtain ⟨k, k1, k2, k3, k4⟩ := thr_mask G n t h1
      have := m6 k k1 k2
      rw [k3, k4, h3, h4] at this
      have e1 : (g : Int) * u * B = u * B * g := by rw [Int.mul_assoc, Int.mul_comm]
      have e2 : A * ((g : Int) * w) = A * w * g := by rw [Int.mul_comm (g : Int), ← Int.mul_assoc]
      rw [e1, e2] at this
      exact Int.le_of_mul_le_mul_right this (by omega)
  · rcases m5 with ⟨e1, e2⟩ | ⟨k, k1, k2, k3, k4⟩
    · rw [e1, e2, Int.zero_mul]; omega
    · have := thr_all G n F w u (by have := hG.2.2; omega) (by omega) d6 (fun i => bi k i) (fun i => bi_01 k i)
      rw [← k3, ← k4]
      exact this
theorem d_step {G : Nat → Int} {n : Nat} {F : Int} {s u w : Nat} (hG : gOK G n F) (hs : s < n) (hd : dOK G n F s u w) (h : (u : Int) * tC G n s < (tX G n s - F) * w) : ∃ a b : Nat, 0 < a ∧ 0 < b ∧ a ≤ 495 ∧ b ≤ 5 ∧ tX G n s - F = a ∧ tC G n s = b ∧ dOK G n F (s + 1) (a / Nat.gcd a b) (b / Nat.gcd a b) := by
  obtain ⟨d1, d2, d3, d4, d5, d6⟩ := hd
  have c1 := tC_pos (G := G) hs
  have c2 := tC_bd hG s
  have x2 := tX_bd hG s
  have f1 := hG.2.2
  have u0 : 0 ≤ (u : Int) * tC G n s := Int.mul_nonneg (by omega) (by omega)
  have xp : 0 < tX G n s - F := by
    by_cases q : 0 < tX G n s - F
    · exact q
    · have := Int.mul_nonneg (show 0 ≤ -(tX G n s - F) by omega) (show (0 : Int) ≤ (w : Int) by omega)
      rw [Int.neg_mul] at this
      omega
  obtain ⟨a, ha⟩ : ∃ a : Nat, tX G n s - F = a := ⟨(tX G n s - F).toNat, by omega⟩
  obtain ⟨b, hb⟩ : ∃ b : Nat, tC G n s = b := ⟨(tC G n s).toNat, by omega⟩
  have g0 : 0 < Nat.gcd a b := Nat.gcd_pos_of_pos_left b (by omega)
  have ea : Nat.gcd a b * (a / Nat.gcd a b) = a := Nat.mul_div_cancel' (Nat.gcd_dvd_left a b)
  have eb : Nat.gcd a b * (b / Nat.gcd a b) = b := Nat.mul_div_cancel' (Nat.gcd_dvd_right a b)
  have gc : Nat.gcd (a / Nat.gcd a b) (b / Nat.gcd a b) = 1 := Nat.gcd_div_gcd_div_gcd_of_pos_left (by omega)
  refine ⟨a, b, by omega, by omega, by omega, by omega, ha, hb, ?_⟩
  generalize Nat.gcd a b = g at *
  generalize a / g = u' at *
  generalize b / g = w' at *
  have bz : 0 < w' := by
    by_cases q : w' = 0
    · rw [q, Nat.mul_zero] at eb; omega
    · omega
  have lu : u' ≤ g * u' := Nat.le_mul_of_pos_left u' g0
  have lw : w' ≤ g * w' := Nat.le_mul_of_pos_left w' g0
  have ha' : tX G n s - F = (g : Int) * u' := by rw [ha, ← ea]; push_cast; rfl
  have hb' : tC G n s = (g : Int) * w' := by rw [hb, ← eb]; push_cast; rfl
  refine ⟨by omega, by omega, by omega, gc, Or.inr ⟨s, g, hs, g0, ha', hb'⟩, fun t ht => ?_⟩
  by_cases e : t = s
  · subst e
    rw [ha', hb', Int.mul_comm (g : Int) u', Int.mul_assoc]
    exact Int.le_refl _
  · have h1 := rat_tr (show (0 : Int) < (w : Int) by omega) (show 0 ≤ tC G n s by omega) (tC_bd hG t).1 h (d6 t (by omega))
    rw [ha', hb'] at h1
    have e1 : (tX G n t - F) * ((g : Int) * w') = (tX G n t - F) * w' * g := by rw [Int.mul_comm (g : Int), ← Int.mul_assoc]
    have e2 : (g : Int) * u' * tC G n t = u' * tC G n t * g := by rw [Int.mul_assoc, Int.mul_comm]
    rw [e1, e2] at h1
    exact Int.le_of_mul_le_mul_right h1 (by omega)
theorem m_step {G : Nat → Int} {n : Nat} {F : Int} {m : Nat} {A B : Int} (hG : gOK G n F) (h1m : 1 ≤ m) (hmn : m < 2 ^ n) (hm : mOK G n F m A B) (h : A * mC n m < (mX G n m - F) * B) : mOK G n F (m + 1) (mX G n m - F) (mC n m) := by
  obtain ⟨m1, m2, m3, m4, m5, m6⟩ := hm
  have c2 := mC_bd hG m
  have x2 := mX_bd hG m
  have f1 := hG.2.2
  have u0 : 0 ≤ A * mC n m := Int.mul_nonneg m1 c2.1
  have xp : 0 < mX G n m - F := by
    by_cases q : 0 < mX G n m - F
    · exact q
    · have := Int.mul_nonneg (show 0 ≤ -(mX G n m - F) by omega) (show 0 ≤ B by omega)
      rw [Int.neg_mul] at this
      omega
  have cp : 1 ≤ mC n m := by
    by_cases q : mC n m = 0
    · have hz : ∀ j, j < n → bi m j = 0 := fun j hj => by
        have h1 := sZ_ge (f := fun i => bi m i) (j := j) n 0 (fun k => (bi_01 m k).1) (by omega) (by omega)
        have h2 := bi_01 m j
        unfold mC at q
        omega
      have e : mX G n m = sZ (fun _ => 0) 0 n := sZ_eq _ _ n 0 (fun j _ hj => by
        show bi m j * G j = 0
        rw [hz j (by omega), Int.zero_mul])
      rw [sZ_const] at e
      omega
    · omega
  refine ⟨by omega, by omega, cp, c2.2, Or.inr ⟨m, h1m, hmn, rfl, rfl⟩, fun k k1 k2 => ?_⟩
  by_cases e : k = m
  · subst e; exact Int.le_refl _
  · exact rat_tr (by omega) c2.1 (mC_bd hG k).1 h (m6 k k1 (by omega))
