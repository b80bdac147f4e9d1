/-! numbers that may be, and what is asked of them -/
theorem q_z0 {A B : Prop} (a : A) : ((0 : Int32) = 0 → A) ∧ (¬ (0 : Int32) = 0 → B) := ⟨fun _ => a, fun h => absurd rfl h⟩
theorem q_z1 {A B : Prop} (b : B) : ((1 : Int32) = 0 → A) ∧ (¬ (1 : Int32) = 0 → B) := ⟨fun h => absurd h (by decide), fun _ => b⟩
theorem q_y0 {A B : Prop} (b : B) : (¬ (0 : Int32) = 0 → A) ∧ ((0 : Int32) = 0 → B) := ⟨fun h => absurd rfl h, fun _ => b⟩
theorem q_y1 {A B : Prop} (a : A) : (¬ (1 : Int32) = 0 → A) ∧ ((1 : Int32) = 0 → B) := ⟨fun _ => a, fun h => absurd h (by decide)⟩
theorem q_pos {c A B : Prop} (h : c) (a : A) : (c → A) ∧ (¬ c → B) := ⟨fun _ => a, fun n => absurd h n⟩
theorem q_neg {c A B : Prop} (h : ¬ c) (b : B) : (c → A) ∧ (¬ c → B) := ⟨fun n => absurd n h, fun _ => b⟩
theorem q_posN {c A B : Prop} (h : c) (b : B) : (¬ c → A) ∧ (c → B) := ⟨fun n => absurd h n, fun _ => b⟩
theorem q_negN {c A B : Prop} (h : ¬ c) (a : A) : (¬ c → A) ∧ (c → B) := ⟨fun _ => a, fun n => absurd n h⟩
theorem q_b0 : narrow FieldType.boolean (Value.int 0) = Value.int 0 := rfl
theorem q_b1 : narrow FieldType.boolean (Value.int 1) = Value.int 1 := rfl
theorem q_lt (x y : Int32) : x < y ↔ x.toInt < y.toInt := Int32.lt_iff_toInt_lt
theorem q_le (x y : Int32) : x ≤ y ↔ x.toInt ≤ y.toInt := Int32.le_iff_toInt_le
theorem q_in {x : Int32} {n : Nat} : vp_in x n ↔ 0 ≤ x.toInt ∧ x.toInt < n := vp_in_iff
theorem q_of {x : Int32} {n : Nat} (h : vp_in x n) (hn : n < 2 ^ 31) : x = nI x.toNatClampNeg ∧ x.toNatClampNeg < n := by
  obtain ⟨j, hj, rfl⟩ := vp_in_of h hn
  rw [nI_clamp (by omega)]
  exact ⟨rfl, hj⟩
theorem q_mono {x : Int32} {n m : Nat} (h : vp_in x n) (hm : n ≤ m) : vp_in x m := by
  rw [q_in] at h ⊢
  omega
theorem q_cl {j : Nat} (h : j < 2 ^ 31) : (nI j).toNatClampNeg = j := nI_clamp h
theorem q_nin {j n : Nat} (h : vp_in (nI j) n) (hj : j < 2 ^ 31) : j < n := by
  rw [q_in, nI_toInt hj] at h
  omega
theorem q_inj {a b : Nat} (ha : a < 2 ^ 31) (hb : b < 2 ^ 31) (h : nI a = nI b) : a = b := (nI_eq ha hb).mp h
section QP
variable {Q : Int32 → pd_M → Prop} {v : Int32} {M : pd_M} {n : Nat}
theorem q_num (hn : n < 2 ^ 31) (h0 : ¬ vp_in v n → Q 0 M) (h1 : vp_in v n → Q 1 M) : wX8_isNumbered Q v (nI n) M := by
  refine ⟨fun h => h0 (fun q => ?_), fun h => ⟨fun h2 => h0 (fun q => ?_), fun h2 => h1 ?_⟩⟩
  · rw [q_in] at q; rw [q_lt] at h; have : (0 : Int32).toInt = 0 := rfl; omega
  · rw [q_in] at q; rw [q_le, nI_toInt hn] at h2; omega
  · rw [q_in]; rw [q_lt] at h; rw [q_le, nI_toInt hn] at h2; have : (0 : Int32).toInt = 0 := rfl; omega
theorem q_upTo (hn : n < 2 ^ 31) (h0 : ¬ vp_in v (n + 1) → Q 0 M) (h1 : vp_in v (n + 1) → Q 1 M) : wX8_isUpTo Q v (nI n) M := by
  refine ⟨fun h => h0 (fun q => ?_), fun h => ⟨fun h2 => h0 (fun q => ?_), fun h2 => h1 ?_⟩⟩
  · rw [q_in] at q; rw [q_lt] at h; have : (0 : Int32).toInt = 0 := rfl; omega
  · rw [q_in] at q; rw [q_lt, nI_toInt hn] at h2; omega
  · rw [q_in]; rw [q_lt] at h; rw [q_lt, nI_toInt hn] at h2; have : (0 : Int32).toInt = 0 := rfl; omega
theorem q_X8b {n : Nat} (hn : n < 2 ^ 31) (h0 : ¬ vp_in v n → Q 0 M) (h1 : vp_in v n → Q 1 M) : wX8_isNumbered (fun r M1 => (narrow FieldType.boolean (Value.int r) = Value.int r ∧ Q r M1)) v (nI n) M := q_num hn (fun h => ⟨q_b0, h0 h⟩) (fun h => ⟨q_b1, h1 h⟩)
theorem q_isStreet (hs : M.1 8 0 = nI n) (hn : n ≤ 5) (h0 : ¬ vp_in v n → Q 0 M) (h1 : vp_in v n → Q 1 M) : wX8_isStreet Q v M := by
  unfold wX8_isStreet; rw [hs]; exact q_X8b (by omega) h0 h1
theorem q_isCar (hs : M.1 24 1 = nI n) (hn : n ≤ 7) (h0 : ¬ vp_in v n → Q 0 M) (h1 : vp_in v n → Q 1 M) : wX8_isCar Q v M := by
  unfold wX8_isCar; rw [hs]; exact q_X8b (by omega) h0 h1
theorem q_isZone (h0 : ¬ vp_in v 4 → Q 0 M) (h1 : vp_in v 4 → Q 1 M) : wX8_isZone Q v M := q_X8b (n := 4) (by decide) h0 h1
theorem q_isSort (h0 : ¬ vp_in v 3 → Q 0 M) (h1 : vp_in v 3 → Q 1 M) : wX8_isSort Q v M := q_X8b (n := 3) (by decide) h0 h1
theorem q_isNight (h0 : ¬ vp_in v 7 → Q 0 M) (h1 : vp_in v 7 → Q 1 M) : wX8_isNight Q v M := q_X8b (n := 7) (by decide) h0 h1
theorem q_isHour (h0 : ¬ vp_in v 24 → Q 0 M) (h1 : vp_in v 24 → Q 1 M) : wX8_isHour Q v M := q_X8b (n := 24) (by decide) h0 h1
theorem r_in {a : Int32} (ha : a.toInt = (n : Int) - 1) (h0 : ¬ vp_in v n → Q 0 M) (h1 : vp_in v n → Q 1 M) : wX9_in Q v 0 a M := by
  refine ⟨fun h => h0 (fun q => ?_), fun h => ⟨fun h2 => h0 (fun q => ?_), fun h2 => h1 ?_⟩⟩
  · rw [q_in] at q; rw [q_lt] at h; have : (0 : Int32).toInt = 0 := rfl; omega
  · rw [q_in] at q; rw [q_lt, ha] at h2; omega
  · rw [q_in]; rw [q_lt] at h; rw [q_lt, ha] at h2; have : (0 : Int32).toInt = 0 := rfl; omega
theorem r_inb {a : Int32} (ha : a.toInt = (n : Int) - 1) (h0 : ¬ vp_in v n → Q 0 M) (h1 : vp_in v n → Q 1 M) : wX9_in (fun r M1 => (narrow FieldType.boolean (Value.int r) = Value.int r ∧ Q r M1)) v 0 a M := r_in ha (fun h => ⟨q_b0, h0 h⟩) (fun h => ⟨q_b1, h1 h⟩)
theorem r_pred {n : Nat} (hn : n < 2 ^ 30) : (nI n - 1).toInt = (n : Int) - 1 := by
  have := pk_sub_toInt (a := n) (b := 1) (by omega) (by decide)
  exact this
theorem r_isStreet (hs : M.1 82 0 = nI n) (hn : n ≤ 5) (h0 : ¬ vp_in v n → Q 0 M) (h1 : vp_in v n → Q 1 M) : wX9_isStreet Q v M := by
  unfold wX9_isStreet; rw [hs]; exact r_inb (r_pred (by omega)) h0 h1
theorem r_isCar (hs : M.1 82 6 = nI n) (hn : n ≤ 7) (h0 : ¬ vp_in v n → Q 0 M) (h1 : vp_in v n → Q 1 M) : wX9_isCar Q v M := by
  unfold wX9_isCar; rw [hs]; exact r_inb (r_pred (by omega)) h0 h1
theorem r_isZone (h0 : ¬ vp_in v 4 → Q 0 M) (h1 : vp_in v 4 → Q 1 M) : wX9_isZone Q v M := r_inb (n := 4) rfl h0 h1
theorem r_isSort (h0 : ¬ vp_in v 3 → Q 0 M) (h1 : vp_in v 3 → Q 1 M) : wX9_isSort Q v M := r_inb (n := 3) rfl h0 h1
theorem r_isNight (h0 : ¬ vp_in v 7 → Q 0 M) (h1 : vp_in v 7 → Q 1 M) : wX9_isNight Q v M := r_inb (n := 7) rfl h0 h1
theorem r_isHour (h0 : ¬ vp_in v 24 → Q 0 M) (h1 : vp_in v 24 → Q 1 M) : wX9_isHour Q v M := r_inb (n := 24) rfl h0 h1
theorem r_upTo {a : Int32} (ha : a = nI n) (hn : n < 2 ^ 31) (h0 : ¬ vp_in v (n + 1) → Q 0 M) (h1 : vp_in v (n + 1) → Q 1 M) : wX9_in Q v 0 a M := r_in (by rw [ha, nI_toInt hn]; omega) h0 h1
theorem r_num {a : Int32} (ha : a = nI n) (hn : n < 2 ^ 30) (h0 : ¬ vp_in v n → Q 0 M) (h1 : vp_in v n → Q 1 M) : wX9_in Q v 0 (a - 1) M := r_in (by rw [ha, r_pred hn]) h0 h1
end QP
/-! what holds between two calls, of the desk and of the model together -/
def I_n (nS nC nT : Nat) (M : pd_M) : Prop := nS ≤ 5 ∧ nC ≤ 7 ∧ nT ≤ 20 ∧ M.1 8 0 = nI nS ∧ M.1 82 0 = nI nS ∧ M.1 24 1 = nI nC ∧ M.1 82 6 = nI nC ∧ M.1 60 0 = nI nT ∧ M.1 82 17 = nI nT
def I_f (M : pd_M) : Prop := vp_in (M.1 59 1) 501 ∧ 1 ≤ (M.1 59 1).toInt ∧ M.1 82 16 = M.1 59 1
def I_s (nS : Nat) (M : pd_M) : Prop := ∀ s, s < nS → s < 5 → (M.1 83 s = M.1 9 s ∧ vp_in (M.1 9 s) 4) ∧ (M.1 84 s = M.1 10 s ∧ vp_in (M.1 10 s) 6) ∧ (∀ n, n < 7 → M.1 85 (7 * s + n) = M.1 (12 + s) n ∧ vp_in (M.1 (12 + s) n) ((M.1 10 s).toNatClampNeg + 1)) ∧ (∀ o, o < nS → o < 5 → M.1 86 (5 * s + o) = M.1 (18 + s) o ∧ vp_in (M.1 (18 + s) o) 51) ∧ (M.1 87 s = M.1 23 s ∧ vp_in (M.1 23 s) 100)
def I_su (nS : Nat) (M : pd_M) : Prop := ∀ s, nS ≤ s → s < 5 → (∀ n, n < 7 → M.1 (12 + s) n = 0) ∧ (∀ o, o < 5 → M.1 (18 + s) o = (if s = o then 0 else 10) ∧ M.1 (18 + o) s = (if s = o then 0 else 10)) ∧ M.1 23 s = 0
/-- the bit of a permit -/
def pb (x : Int32) (j : Nat) : Prop := ¬ (x &&& ((1 : Int32) <<< (nI j &&& 31))) = 0
def I_c (nS nC : Nat) (M : pd_M) : Prop := ∀ c, c < nC → c < 7 → (M.1 88 c = M.1 25 c ∧ vp_in (M.1 25 c) nS) ∧ (M.1 91 c = M.1 26 c ∧ vp_in (M.1 26 c) 100) ∧ (∀ z, z < 4 → M.1 90 (4 * c + z) = M.1 (29 + c) z ∧ vp_in (M.1 (29 + c) z) 10) ∧ (∀ z t, z < 4 → t < 3 → (M.1 89 ((4 * c + z) * 3 + t) = 0 ∧ ¬ pb (M.1 27 c) (z * 3 + t)) ∨ (M.1 89 ((4 * c + z) * 3 + t) = 1 ∧ pb (M.1 27 c) (z * 3 + t)))
def I_cu (nC : Nat) (M : pd_M) : Prop := ∀ c, nC ≤ c → c < 7 → M.1 27 c = 0 ∧ ∀ z, z < 4 → M.1 (29 + c) z = 0
def I_o (nC : Nat) (M : pd_M) : Prop := (∀ i, i < nC → M.1 92 i = M.1 36 i ∧ vp_in (M.1 36 i) nC) ∧ (∀ i j, i < nC → j < nC → M.1 36 i = M.1 36 j → i = j) ∧ ∀ c, c < nC → ∃ i, i < nC ∧ M.1 36 i = nI c
/-- the bit of an hour -/
def hb (x : Int32) (h : Nat) : Prop := ((x >>> (nI h &&& 31)) &&& 1) = 1
/-- an hour within two -/
def inH (h : Nat) (a b : Int32) : Prop := 0 ≤ a ∧ (if b < a then a ≤ nI h ∨ nI h ≤ b else a ≤ nI h ∧ nI h ≤ b)
def I_r (M : pd_M) : Prop := ∀ z, z < 4 → (∀ h, h < 24 → (hb (M.1 2 z) h ↔ inH h (M.1 93 z) (M.1 94 z))) ∧ ∀ t, t < 3 → ∀ h, h < 24 → (hb (M.1 (4 + z) t) h ↔ inH h (M.1 95 (3 * z + t)) (M.1 96 (3 * z + t)))
/-- how a ticket is judged -/
def jd (m s : Int32) : Int32 := if 0 < m ∨ s = 0 then 0 else if s = 1 then 1 else 2
def I_t (nT : Nat) (M : pd_M) : Prop := ∀ t, t < nT → t < 20 → M.1 (62 + t) 0 = M.1 97 t ∧ M.1 (62 + t) 1 = M.1 98 t ∧ M.1 (62 + t) 2 = M.1 99 t ∧ M.1 (62 + t) 3 = M.1 100 t ∧ M.1 (62 + t) 4 = M.1 101 t ∧ M.1 (62 + t) 5 = jd (M.1 102 t) (M.1 100 t)
def I_x (nS nC : Nat) (M : pd_M) : Prop := (∀ c s, c < 7 → s < 5 → (nC ≤ c ∨ nS ≤ s) → M.1 (40 + c) s = 0) ∧ ∀ s, nS ≤ s → s < 5 → M.1 47 s = 0
def Inv (M : pd_M) : Prop := ∃ nS nC nT, I_n nS nC nT M ∧ I_f M ∧ I_s nS M ∧ I_su nS M ∧ I_c nS nC M ∧ I_cu nC M ∧ I_o nC M ∧ I_r M ∧ I_t nT M ∧ I_x nS nC M
/-! what each part of it looks at -/
def same (P : Nat → Prop) (M M' : pd_M) : Prop := ∀ k i, P k → M'.1 k i = M.1 k i
theorem same_sI {P : Nat → Prop} {M : pd_M} {k i : Nat} {v : Int32} (h : ¬ P k) : same P M (sI M k i v) := fun k' i' hp => by
  rw [sI_at, if_neg]
  rintro ⟨rfl, -⟩
  exact h hp
theorem same_tr {P : Nat → Prop} {M M1 M2 : pd_M} (h1 : same P M M1) (h2 : same P M1 M2) : same P M M2 := fun k i hp => (h2 k i hp).trans (h1 k i hp)
theorem same_rf {P : Nat → Prop} {M : pd_M} : same P M M := fun _ _ _ => rfl
theorem same_mono {P P' : Nat → Prop} {M M' : pd_M} (h : same P M M') (hp : ∀ k, P' k → P k) : same P' M M' := fun k i q => h k i (hp k q)
abbrev P_s (k : Nat) : Prop := (9 ≤ k ∧ k < 24) ∨ (83 ≤ k ∧ k ≤ 87)
abbrev P_su (k : Nat) : Prop := 12 ≤ k ∧ k < 24
abbrev P_c (k : Nat) : Prop := (25 ≤ k ∧ k < 36) ∨ (88 ≤ k ∧ k ≤ 91)
abbrev P_cu (k : Nat) : Prop := 27 ≤ k ∧ k < 36
abbrev P_o (k : Nat) : Prop := k = 36 ∨ k = 92
abbrev P_r (k : Nat) : Prop := (2 ≤ k ∧ k < 8) ∨ (93 ≤ k ∧ k ≤ 96)
abbrev P_t (k : Nat) : Prop := (62 ≤ k ∧ k < 82) ∨ (97 ≤ k ∧ k ≤ 102)
abbrev P_x (k : Nat) : Prop := 40 ≤ k ∧ k ≤ 47
theorem I_s.fr {nS : Nat} {M M' : pd_M} (h : same P_s M M') (hI : I_s nS M) : I_s nS M' := by
  intro s hs h5
  obtain ⟨⟨a1, a2⟩, ⟨b1, b2⟩, c, d, e1, e2⟩ := hI s hs h5
  have e10 := h 10 s (by unfold P_s; omega)
  refine ⟨?_, ?_, fun n hn => ?_, fun o ho h5' => ?_, ?_⟩
  · rw [h 83 s (by unfold P_s; omega), h 9 s (by unfold P_s; omega)]; exact ⟨a1, a2⟩
  · rw [h 84 s (by unfold P_s; omega), e10]; exact ⟨b1, b2⟩
  · rw [h 85 _ (by unfold P_s; omega), h (12 + s) n (by unfold P_s; omega), e10]; exact c n hn
  · rw [h 86 _ (by unfold P_s; omega), h (18 + s) o (by unfold P_s; omega)]; exact d o ho h5'
  · rw [h 87 s (by unfold P_s; omega), h 23 s (by unfold P_s; omega)]; exact ⟨e1, e2⟩
theorem I_su.fr {nS : Nat} {M M' : pd_M} (h : same P_su M M') (hI : I_su nS M) : I_su nS M' := by
  intro s hs h5
  obtain ⟨a, b, c⟩ := hI s hs h5
  refine ⟨fun n hn => ?_, fun o ho => ?_, ?_⟩
  · rw [h (12 + s) n (by unfold P_su; omega)]; exact a n hn
  · rw [h (18 + s) o (by unfold P_su; omega), h (18 + o) s (by unfold P_su; omega)]; exact b o ho
  · rw [h 23 s (by unfold P_su; omega)]; exact c
theorem I_c.fr {nS nC : Nat} {M M' : pd_M} (h : same P_c M M') (hI : I_c nS nC M) : I_c nS nC M' := by
  intro c hc h7
  obtain ⟨a, b, d, e⟩ := hI c hc h7
  refine ⟨?_, ?_, fun z hz => ?_, fun z t hz ht => ?_⟩
  · rw [h 88 c (by unfold P_c; omega), h 25 c (by unfold P_c; omega)]; exact a
  · rw [h 91 c (by unfold P_c; omega), h 26 c (by unfold P_c; omega)]; exact b
  · rw [h 90 _ (by unfold P_c; omega), h (29 + c) z (by unfold P_c; omega)]; exact d z hz
  · rw [h 89 _ (by unfold P_c; omega), h 27 c (by unfold P_c; omega)]; exact e z t hz ht
theorem I_cu.fr {nC : Nat} {M M' : pd_M} (h : same P_cu M M') (hI : I_cu nC M) : I_cu nC M' := by
  intro c hc h7
  obtain ⟨a, b⟩ := hI c hc h7
  refine ⟨?_, fun z hz => ?_⟩
  · rw [h 27 c (by unfold P_cu; omega)]; exact a
  · rw [h (29 + c) z (by unfold P_cu; omega)]; exact b z hz
theorem I_o.fr {nC : Nat} {M M' : pd_M} (h : same P_o M M') (hI : I_o nC M) : I_o nC M' := by
  obtain ⟨a, b, c⟩ := hI
  have e1 : ∀ i, M'.1 36 i = M.1 36 i := fun i => h 36 i (Or.inl rfl)
  have e2 : ∀ i, M'.1 92 i = M.1 92 i := fun i => h 92 i (Or.inr rfl)
  refine ⟨fun i hi => ?_, fun i j hi hj => ?_, fun k hk => ?_⟩
  · rw [e1, e2]; exact a i hi
  · rw [e1, e1]; exact b i j hi hj
  · obtain ⟨i, hi, hk⟩ := c k hk
    exact ⟨i, hi, by rw [e1]; exact hk⟩
theorem I_r.fr {M M' : pd_M} (h : same P_r M M') (hI : I_r M) : I_r M' := by
  intro z hz
  obtain ⟨a, b⟩ := hI z hz
  refine ⟨fun k hk => ?_, fun t ht k hk => ?_⟩
  · rw [h 2 z (by unfold P_r; omega), h 93 z (by unfold P_r; omega), h 94 z (by unfold P_r; omega)]; exact a k hk
  · rw [h (4 + z) t (by unfold P_r; omega), h 95 _ (by unfold P_r; omega), h 96 _ (by unfold P_r; omega)]; exact b t ht k hk
theorem I_t.fr {nT : Nat} {M M' : pd_M} (h : same P_t M M') (hI : I_t nT M) : I_t nT M' := by
  intro t ht h20
  have e := fun i => h (62 + t) i (by unfold P_t; omega)
  rw [e 0, e 1, e 2, e 3, e 4, e 5, h 97 t (by unfold P_t; omega), h 98 t (by unfold P_t; omega), h 99 t (by unfold P_t; omega), h 100 t (by unfold P_t; omega), h 101 t (by unfold P_t; omega), h 102 t (by unfold P_t; omega)]
  exact hI t ht h20
theorem I_x.fr {nS nC : Nat} {M M' : pd_M} (h : same P_x M M') (hI : I_x nS nC M) : I_x nS nC M' := by
  refine ⟨fun c s hc hs hcs => ?_, fun s hs h5 => ?_⟩
  · rw [h (40 + c) s (by unfold P_x; omega)]; exact hI.1 c s hc hs hcs
  · rw [h 47 s (by unfold P_x; omega)]; exact hI.2 s hs h5
theorem I_n.fr {nS nC nT : Nat} {M M' : pd_M} (h8 : M'.1 8 0 = M.1 8 0) (h24 : M'.1 24 1 = M.1 24 1) (h60 : M'.1 60 0 = M.1 60 0) (h82 : ∀ i, i < 28 → M'.1 82 i = M.1 82 i) (hI : I_n nS nC nT M) : I_n nS nC nT M' := by
  obtain ⟨a, b, c, d1, d2, d3, d4, d5, d6⟩ := hI
  exact ⟨a, b, c, by rw [h8, d1], by rw [h82 0 (by decide), d2], by rw [h24, d3], by rw [h82 6 (by decide), d4], by rw [h60, d5], by rw [h82 17 (by decide), d6]⟩
theorem I_f.fr {M M' : pd_M} (h59 : M'.1 59 1 = M.1 59 1) (h82 : M'.1 82 16 = M.1 82 16) (hI : I_f M) : I_f M' := by
  unfold I_f
  rw [h59, h82]
  exact hI
