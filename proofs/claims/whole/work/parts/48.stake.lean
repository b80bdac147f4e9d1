/-! whole numbers within the words -/
abbrev zI (n : Int) : Int32 := Int32.ofInt n
theorem z_n (n : Nat) : nI n = zI n := (Int32.ofInt_eq_ofNat).symm
theorem z_of (x : Int32) : x = zI x.toInt := (Int32.ofInt_toInt x).symm
theorem z_toInt {a : Int} (h : -2147483648 ≤ a) (h' : a < 2147483648) : (zI a).toInt = a := Int32.toInt_ofInt_of_le h h'
theorem z_add (a b : Int) : zI a + zI b = zI (a + b) := (Int32.ofInt_add a b).symm
theorem z_mul (a b : Int) : zI a * zI b = zI (a * b) := (Int32.ofInt_mul a b).symm
theorem z_neg (a : Int) : -zI a = zI (-a) := (Int32.ofInt_neg a).symm
theorem z_sub (a b : Int) : zI a - zI b = zI (a - b) := (Int32.ofInt_sub a b).symm
theorem z_le {a b : Int} (h1 : -2147483648 ≤ a) (h2 : a < 2147483648) (h3 : -2147483648 ≤ b) (h4 : b < 2147483648) : zI a ≤ zI b ↔ a ≤ b := by
  rw [q_le, z_toInt h1 h2, z_toInt h3 h4]
theorem z_nn {a : Int} (h : 0 ≤ a) : zI a = nI a.toNat := by rw [z_n]; congr 1; omega
/-! sums -/
def sZ (f : Nat → Int) : Nat → Nat → Int
  | _, 0 => 0
  | i, d + 1 => f i + sZ f (i + 1) d
theorem sZ_le (f g : Nat → Int) : ∀ (d i : Nat), (∀ j, i ≤ j → j < i + d → f j ≤ g j) → sZ f i d ≤ sZ g i d
  | 0, i, h => Int.le_refl _
  | d + 1, i, h => by
    have h1 := sZ_le f g d (i + 1) (fun j q1 q2 => h j (by omega) (by omega))
    have h2 := h i (by omega) (by omega)
    unfold sZ
    omega
theorem sZ_eq (f g : Nat → Int) (d i : Nat) (h : ∀ j, i ≤ j → j < i + d → f j = g j) : sZ f i d = sZ g i d :=
  Int.le_antisymm (sZ_le f g d i (fun j q1 q2 => Int.le_of_eq (h j q1 q2))) (sZ_le g f d i (fun j q1 q2 => Int.le_of_eq (h j q1 q2).symm))
theorem sZ_const (k : Int) : ∀ (d i : Nat), sZ (fun _ => k) i d = k * d
  | 0, i => by simp [sZ]
  | d + 1, i => by unfold sZ; rw [sZ_const k d (i + 1)]; push_cast; rw [Int.mul_add]; omega
theorem sZ_lin (f g : Nat → Int) (w u : Int) : ∀ (d i : Nat), sZ (fun j => f j * w - u * g j) i d = sZ f i d * w - u * sZ g i d
  | 0, i => by simp [sZ]
  | d + 1, i => by
    unfold sZ
    rw [sZ_lin f g w u d (i + 1), Int.add_mul, Int.mul_add]
    omega
theorem sZ_ge {f : Nat → Int} {j : Nat} : ∀ (d i : Nat), (∀ k, 0 ≤ f k) → i ≤ j → j < i + d → f j ≤ sZ f i d
  | 0, i, h, h1, h2 => by omega
  | d + 1, i, h, h1, h2 => by
    unfold sZ
    by_cases e : j = i
    · have : sZ (fun _ => 0) (i + 1) d ≤ sZ f (i + 1) d := sZ_le _ _ d (i + 1) (fun k _ _ => h k)
      rw [sZ_const] at this
      subst e
      omega
    · have := sZ_ge (j := j) d (i + 1) h (by omega) (by omega)
      have := h i
      omega
def bi (m i : Nat) : Int := ((m / 2 ^ i % 2 : Nat) : Int)
theorem bi_01 (m i : Nat) : 0 ≤ bi m i ∧ bi m i ≤ 1 := by unfold bi; omega
def mX (G : Nat → Int) (n m : Nat) : Int := sZ (fun i => bi m i * G i) 0 n
def mC (n m : Nat) : Int := sZ (fun i => bi m i) 0 n
def tX (G : Nat → Int) (n s : Nat) : Int := sZ (fun i => if G i < G s then 0 else G i) 0 n
def tC (G : Nat → Int) (n s : Nat) : Int := sZ (fun i => if G i < G s then 0 else 1) 0 n
theorem least_of (G : Nat → Int) (P : Nat → Prop) : ∀ (n : Nat), (∃ s, s < n ∧ P s) → ∃ s, s < n ∧ P s ∧ ∀ i, i < n → P i → G s ≤ G i
  | 0, h => by obtain ⟨s, h, _⟩ := h; omega
  | n + 1, h => by
    by_cases q : ∃ s, s < n ∧ P s
    · obtain ⟨s, h1, h2, h3⟩ := least_of G P n q
      by_cases q2 : P n ∧ G n < G s
      · refine ⟨n, by omega, q2.1, fun i hi hp => ?_⟩
        by_cases e : i = n
        · subst e; exact Int.le_refl _
        · have := h3 i (by omega) hp; omega
      · refine ⟨s, by omega, h2, fun i hi hp => ?_⟩
        by_cases e : i = n
        · subst e
          by_cases q3 : G i < G s
          · exact absurd ⟨hp, q3⟩ q2
          · omega
        · exact h3 i (by omega) hp
    · obtain ⟨s, h1, h2⟩ := h
      have e : s = n := by
        by_cases e : s = n
        · exact e
        · exact absurd ⟨s, by omega, h2⟩ q
      subst e
      refine ⟨s, by omega, h2, fun i hi hp => ?_⟩
      by_cases e : i = s
      · subst e; exact Int.le_refl _
      · exact absurd ⟨i, by omega, hp⟩ q
/-- no set of streets is above all those that a gain bounds -/
theorem thr_all (G : Nat → Int) (n : Nat) (F w u : Int) (hF : 0 ≤ F) (hw : 0 ≤ w) (hT : ∀ s, s < n → (tX G n s - F) * w ≤ u * tC G n s) (b : Nat → Int) (hb : ∀ i, 0 ≤ b i ∧ b i ≤ 1) : (sZ (fun i => b i * G i) 0 n - F) * w ≤ u * sZ b 0 n := by
  have hFw : 0 ≤ F * w := Int.mul_nonneg hF hw
  have e := sZ_lin (fun i => b i * G i) b w u n 0
  have key : sZ (fun i => b i * G i) 0 n * w - u * sZ b 0 n ≤ F * w := by
    rw [← e]
    have eD : ∀ j, b j * G j * w - u * b j = b j * (G j * w - u) := fun j => by rw [Int.mul_sub, Int.mul_assoc, Int.mul_comm u]
    by_cases q : ∃ s, s < n ∧ 0 < G s * w - u
    · obtain ⟨s, h1, h2, h3⟩ := least_of G (fun s => 0 < G s * w - u) n q
      have hs := hT s h1
      have e2 := sZ_lin (fun i => if G i < G s then 0 else G i) (fun i => if G i < G s then 0 else 1) w u n 0
      have e3 : sZ (fun j => (if G j < G s then 0 else G j) * w - u * (if G j < G s then 0 else 1)) 0 n ≤ F * w := by
        rw [e2]
        unfold tX tC at hs
        rw [Int.sub_mul] at hs
        omega
      refine Int.le_trans (sZ_le _ _ n 0 (fun j _ hj => ?_)) e3
      show b j * G j * w - u * b j ≤ (if G j < G s then 0 else G j) * w - u * (if G j < G s then 0 else 1)
      rw [eD]
      by_cases hlt : G j < G s
      · rw [if_pos hlt, if_pos hlt]
        have : ¬ 0 < G j * w - u := fun hp => by have := h3 j (by omega) hp; omega
        have := Int.mul_nonneg (hb j).1 (show 0 ≤ -(G j * w - u) by omega)
        rw [Int.mul_neg] at this
        omega
      · rw [if_neg hlt, if_neg hlt, Int.mul_one]
        have h5 := Int.mul_le_mul_of_nonneg_right (show G s ≤ G j by omega) hw
        have := Int.mul_le_mul_of_nonneg_right (hb j).2 (show 0 ≤ G j * w - u by omega)
        omega
    · refine Int.le_trans (sZ_le _ (fun _ => 0) n 0 (fun j _ hj => ?_)) ?_
      · show b j * G j * w - u * b j ≤ 0
        rw [eD]
        have : ¬ 0 < G j * w - u := fun hp => q ⟨j, by omega, hp⟩
        have := Int.mul_nonneg (hb j).1 (show 0 ≤ -(G j * w - u) by omega)
        rw [Int.mul_neg] at this
        omega
      · rw [sZ_const]; omega
  rw [Int.sub_mul]
  omega
/-- every set of streets is a mask -/
theorem mask_of : ∀ (n : Nat) (p : Nat → Bool), ∃ m, m < 2 ^ n ∧ (∀ i, i < n → m / 2 ^ i % 2 = if p i then 1 else 0) ∧ ((∃ i, i < n ∧ p i = true) → 1 ≤ m)
  | 0, p => ⟨0, by decide, fun i h => by omega, fun ⟨i, h, _⟩ => by omega⟩
  | n + 1, p => by
    obtain ⟨m, h1, h2, h3⟩ := mask_of n (fun i => p (i + 1))
    refine ⟨(if p 0 then 1 else 0) + 2 * m, ?_, fun i hi => ?_, fun ⟨i, hi, hp⟩ => ?_⟩
    · rw [Nat.pow_succ]; split <;> omega
    · cases i with
      | zero => rw [Nat.pow_zero, Nat.div_one]; split <;> omega
      | succ i =>
        rw [show 2 ^ (i + 1) = 2 * 2 ^ i by rw [Nat.pow_succ, Nat.mul_comm], ← Nat.div_div_eq_div_mul, show ((if p 0 then 1 else 0) + 2 * m) / 2 = m by split <;> omega]
        exact h2 i (by omega)
    · cases i with
      | zero => rw [if_pos hp]; omega
      | succ i =>
        have := h3 ⟨i, by omega, hp⟩
        split <;> omega
theorem thr_mask (G : Nat → Int) (n s : Nat) (hs : s < n) : ∃ m, 1 ≤ m ∧ m < 2 ^ n ∧ mX G n m = tX G n s ∧ mC n m = tC G n s := by
  obtain ⟨m, h1, h2, h3⟩ := mask_of n (fun i => decide (¬ G i < G s))
  refine ⟨m, h3 ⟨s, hs, by simp⟩, h1, sZ_eq _ _ n 0 (fun j _ hj => ?_), sZ_eq _ _ n 0 (fun j _ hj => ?_)⟩
  · show bi m j * G j = if G j < G s then 0 else G j
    unfold bi
    rw [h2 j (by omega)]
    by_cases q : G j < G s
    · simp [q]
    · simp [q]
  · show bi m j = if G j < G s then 0 else 1
    unfold bi
    rw [h2 j (by omega)]
    by_cases q : G j < G s
    · simp [q]
    · simp [q]
/-- a greater ratio is above what the smaller was above -/
theorem rat_tr {x c u w x' c' : Int} (hw : 0 < w) (hc : 0 ≤ c) (hc' : 0 ≤ c') (h1 : u * c < x * w) (h2 : x' * w ≤ u * c') : x' * c ≤ x * c' := by
  have a1 : x' * w * c ≤ u * c' * c := Int.mul_le_mul_of_nonneg_right h2 hc
  have a2 : u * c * c' ≤ x * w * c' := Int.mul_le_mul_of_nonneg_right (Int.le_of_lt h1) hc'
  have e1 : u * c' * c = u * c * c' := by rw [Int.mul_assoc, Int.mul_comm c' c, ← Int.mul_assoc]
  have e2 : x' * w * c = x' * c * w := by rw [Int.mul_assoc, Int.mul_comm w c, ← Int.mul_assoc]
  have e3 : x * w * c' = x * c' * w := by rw [Int.mul_assoc, Int.mul_comm w c', ← Int.mul_assoc]
  exact Int.le_of_mul_le_mul_right (by omega) hw
/-- equal ratios clear to the same -/
theorem red_one {u w A B : Nat} (hu : 0 < u) (hg : Nat.gcd u w = 1) (h : u * B = A * w) : u = A / Nat.gcd A B ∧ w = B / Nat.gcd A B ∨ A = 0 := by
  have hd : u ∣ A := (Nat.Coprime.dvd_of_dvd_mul_right (k := u) (n := w) (m := A) hg (by rw [← h]; exact Nat.dvd_mul_right u B))
  obtain ⟨k, rfl⟩ := hd
  have hB : B = k * w := by
    have : u * B = u * (k * w) := by rw [h, Nat.mul_assoc]
    exact Nat.eq_of_mul_eq_mul_left hu this
  subst hB
  have eg : Nat.gcd (u * k) (k * w) = k := by rw [Nat.mul_comm u k, Nat.gcd_mul_left, hg, Nat.mul_one]
  by_cases hk : k = 0
  · right; rw [hk, Nat.mul_zero]
  · left
    rw [eg, Nat.mul_div_cancel _ (by omega), Nat.mul_comm k w, Nat.mul_div_cancel _ (by omega)]
    exact ⟨rfl, rfl⟩
theorem red_eq {p q P R : Nat} (hp : 0 < p) (hq : 0 < q) (hP : 0 < P) (h : p * R = P * q) : p / Nat.gcd p q = P / Nat.gcd P R ∧ q / Nat.gcd p q = R / Nat.gcd P R := by
  have hg : 0 < Nat.gcd p q := Nat.gcd_pos_of_pos_left q hp
  obtain ⟨a, ha⟩ := Nat.gcd_dvd_left p q
  obtain ⟨b, hb⟩ := Nat.gcd_dvd_right p q
  have e1 : p / Nat.gcd p q = a := by
    conv => lhs; lhs; rw [ha]
    exact Nat.mul_div_cancel_left a hg
  have e2 : q / Nat.gcd p q = b := by
    conv => lhs; lhs; rw [hb]
    exact Nat.mul_div_cancel_left b hg
  have hc : Nat.gcd a b = 1 := by
    rw [← e1, ← e2]
    exact Nat.gcd_div_gcd_div_gcd_of_pos_left hp
  have ha0 : 0 < a := by
    by_cases q0 : a = 0
    · rw [q0, Nat.mul_zero] at ha; omega
    · omega
  have h2 : a * R = P * b := by
    have : Nat.gcd p q * (a * R) = Nat.gcd p q * (P * b) := by
      rw [← Nat.mul_assoc, ← ha, h]
      conv => lhs; rw [hb]
      rw [← Nat.mul_assoc, Nat.mul_comm P, Nat.mul_assoc]
    exact Nat.eq_of_mul_eq_mul_left hg this
  rw [e1, e2]
  rcases red_one ha0 hc h2 with r | r
  · exact r
  · omega
