/-! the model's search: what it has seen is all below a number -/
def wtI : Nat → Int
  | 0 => 279936
  | c + 1 => ppI c
theorem wt_6 : ∀ i, i < 7 → wtI i = 6 * wtI (i + 1) := by unfold wtI ppI; decide
theorem wt_pos : ∀ i, i < 8 → 1 ≤ wtI i := by unfold wtI ppI; decide
def dg (i d : Nat) (h : Nat → Nat) : Int := sZ (fun c => (h c : Int) * ppI c) i d
theorem dg_bd (h : Nat → Nat) : ∀ (d i : Nat), i + d ≤ 7 → (∀ c, i ≤ c → c < i + d → h c ≤ 5) → 0 ≤ dg i d h ∧ dg i d h ≤ wtI i - wtI (i + d)
  | 0, i, hi, hh => by
    show 0 ≤ (0 : Int) ∧ (0 : Int) ≤ wtI i - wtI i
    omega
  | d + 1, i, hi, hh => by
    have ih := dg_bd h d (i + 1) (by omega) (fun c h1 h2 => hh c (by omega) (by omega))
    have w6 := wt_6 i (by omega)
    have wp : 0 ≤ ppI i := by have := pp_bd i (by omega); omega
    have hi5 := hh i (by omega) (by omega)
    have m1 : (h i : Int) * ppI i ≤ 5 * ppI i := Int.mul_le_mul_of_nonneg_right (by omega) wp
    have m2 : 0 ≤ (h i : Int) * ppI i := Int.mul_nonneg (by omega) wp
    have e : wtI (i + 1) = ppI i := rfl
    rw [show i + 1 + d = i + (d + 1) by omega] at ih
    show 0 ≤ (h i : Int) * ppI i + dg (i + 1) d h ∧ (h i : Int) * ppI i + dg (i + 1) d h ≤ wtI i - wtI (i + (d + 1))
    omega
theorem digit {a b r W : Int} (hW : 0 < W) (h0 : 0 ≤ r) (h1 : r < W) (h2 : b * W ≤ a * W + r) (h3 : a * W + r < b * W + W) : a = b := by
  by_cases q : a < b
  · have := Int.mul_le_mul_of_nonneg_right (show a + 1 ≤ b by omega) (show 0 ≤ W by omega)
    rw [Int.add_mul] at this
    omega
  · by_cases q2 : b < a
    · have := Int.mul_le_mul_of_nonneg_right (show b + 1 ≤ a by omega) (show 0 ≤ W by omega)
      rw [Int.add_mul] at this
      omega
    · omega
theorem dg_match (h s : Nat → Nat) (x : Nat) (hx : x ≤ 5) : ∀ (m i d : Nat), i + d ≤ 7 → m < d → (∀ c, i ≤ c → c < i + d → h c ≤ 5) → (∀ c, i ≤ c → c < i + m → s c ≤ 5) → dg i m s + x * ppI (i + m) ≤ dg i d h → dg i d h < dg i m s + x * ppI (i + m) + ppI (i + m) → (∀ c, i ≤ c → c < i + m → h c = s c) ∧ h (i + m) = x
  | 0, i, d, hd, hm, hh, hs, h1, h2 => by
    obtain ⟨d', rfl⟩ : ∃ d', d = d' + 1 := ⟨d - 1, by omega⟩
    have b := dg_bd h d' (i + 1) (by omega) (fun c h1 h2 => hh c (by omega) (by omega))
    have wp := wt_pos (i + 1 + d') (by omega)
    have e : wtI (i + 1) = ppI i := rfl
    have pb := pp_bd i (by omega)
    have h1' : (x : Int) * ppI i ≤ (h i : Int) * ppI i + dg (i + 1) d' h := by
      have : dg i 0 s + x * ppI (i + 0) ≤ (h i : Int) * ppI i + dg (i + 1) d' h := h1
      have e0 : dg i 0 s = 0 := rfl
      rw [e0, Nat.add_zero, Int.zero_add] at this
      exact this
    have h2' : (h i : Int) * ppI i + dg (i + 1) d' h < (x : Int) * ppI i + ppI i := by
      have : (h i : Int) * ppI i + dg (i + 1) d' h < dg i 0 s + x * ppI (i + 0) + ppI (i + 0) := h2
      have e0 : dg i 0 s = 0 := rfl
      rw [e0, Nat.add_zero, Int.zero_add] at this
      exact this
    have := digit (a := h i) (b := x) (r := dg (i + 1) d' h) (W := ppI i) (by omega) b.1 (by omega) h1' h2'
    exact ⟨fun c h3 h4 => by omega, by rw [Nat.add_zero]; omega⟩
  | m + 1, i, d, hd, hm, hh, hs, h1, h2 => by
    obtain ⟨d', rfl⟩ : ∃ d', d = d' + 1 := ⟨d - 1, by omega⟩
    have b := dg_bd h d' (i + 1) (by omega) (fun c h1 h2 => hh c (by omega) (by omega))
    have bs := dg_bd s m (i + 1) (by omega) (fun c h1 h2 => hs c (by omega) (by omega))
    have wp := wt_pos (i + 1 + d') (by omega)
    have e : wtI (i + 1) = ppI i := rfl
    have e' : wtI (i + (m + 1) + 1) = ppI (i + (m + 1)) := rfl
    have w6 := wt_6 (i + (m + 1)) (by omega)
    have pb := pp_bd i (by omega)
    have pb2 := pp_bd (i + (m + 1)) (by omega)
    have x1 : (x : Int) * ppI (i + (m + 1)) ≤ 5 * ppI (i + (m + 1)) := Int.mul_le_mul_of_nonneg_right (by omega) (by omega)
    have x0 : 0 ≤ (x : Int) * ppI (i + (m + 1)) := Int.mul_nonneg (by omega) (by omega)
    rw [show i + 1 + m = i + (m + 1) by omega] at bs
    have h1' : (s i : Int) * ppI i + dg (i + 1) m s + x * ppI (i + (m + 1)) ≤ (h i : Int) * ppI i + dg (i + 1) d' h := h1
    have h2' : (h i : Int) * ppI i + dg (i + 1) d' h < (s i : Int) * ppI i + dg (i + 1) m s + x * ppI (i + (m + 1)) + ppI (i + (m + 1)) := h2
    have hd0 := digit (a := h i) (b := s i) (r := dg (i + 1) d' h) (W := ppI i) (by omega) b.1 (by omega) (by omega) (by omega)
    have hd1 : h i = s i := by omega
    rw [hd1] at h1' h2'
    obtain ⟨r1, r2⟩ := dg_match h s x hx m (i + 1) d' (by omega) (by omega) (fun c h1 h2 => hh c (by omega) (by omega)) (fun c h1 h2 => hs c (by omega) (by omega)) (by rw [show i + 1 + m = i + (m + 1) by omega]; omega) (by rw [show i + 1 + m = i + (m + 1) by omega]; omega)
    rw [show i + 1 + m = i + (m + 1) by omega] at r2
    refine ⟨fun c h3 h4 => ?_, r2⟩
    by_cases ec : c = i
    · subst ec; exact hd1
    · exact r1 c (by omega) (by omega)
theorem sZ_succ (g : Nat → Int) : ∀ (d i : Nat), sZ g i (d + 1) = sZ g i d + g (i + d)
  | 0, i => by simp [sZ]
  | d + 1, i => by
    have := sZ_succ g d (i + 1)
    show g i + sZ g (i + 1) (d + 1) = g i + sZ g (i + 1) d + g (i + (d + 1))
    rw [this, show i + 1 + d = i + (d + 1) by omega]
    omega
theorem sZ_pre (g : Nat → Int) (i : Nat) (h : ∀ c, 0 ≤ g c) (m : Nat) : ∀ d, m ≤ d → sZ g i m ≤ sZ g i d
  | 0, hm => by
    obtain rfl : m = 0 := by omega
    exact Int.le_refl _
  | d + 1, hm => by
    by_cases e : m = d + 1
    · rw [e]; exact Int.le_refl _
    · have := sZ_pre g i h m d (by omega)
      rw [sZ_succ]
      have := h (i + d)
      omega
def cM (nS : Nat) (hm : Nat → Nat) (D : Nat → Nat → Nat) (c s : Nat) : Int := if s = nS then 10000 else (if s < nS ∧ hm c < nS then (D (hm c) s : Int) else 0)
def csM (nS : Nat) (hm : Nat → Nat) (D : Nat → Nat → Nat) (k : Nat) (g : Nat → Nat) : Int := sZ (fun c => cM nS hm D c (g c)) 0 k
def FeM (nS k : Nat) (hm L : Nat → Nat) (D R : Nat → Nat → Nat) (cap g : Nat → Nat) : Prop := (∀ c, c < k → g c ≤ nS ∧ (g c = nS ∨ okb hm L D R c (g c) = true)) ∧ ∀ s, s < nS → cnt (fun c => g c = s) 0 k ≤ cap s
section S20
variable {nS nC : Nat} {hm L cap : Nat → Nat} {D R : Nat → Nat → Nat}
theorem cM_bd (hD : ∀ h s, h < nS → s < nS → D h s ≤ 50) (c s : Nat) : 0 ≤ cM nS hm D c s ∧ cM nS hm D c s ≤ 10000 := by
  unfold cM
  split
  · omega
  · split
    · rename_i h; have := hD (hm c) s h.2 h.1; omega
    · omega
theorem csM_bd (hD : ∀ h s, h < nS → s < nS → D h s ≤ 50) (k : Nat) (g : Nat → Nat) : 0 ≤ csM nS hm D k g ∧ csM nS hm D k g ≤ 10000 * k :=
  sZ_bd (fun j _ => cM_bd hD j (g j))
def BB (nS nC : Nat) (hm L : Nat → Nat) (D R : Nat → Nat → Nat) (cap : Nat → Nat) (N lst : Int) (g : Nat → Nat) : Prop := (∀ h, FeM nS nC hm L D R cap h → dg 0 nC h < N → lst < csM nS hm D nC h ∨ (lst = csM nS hm D nC h ∧ dg 0 nC g ≤ dg 0 nC h)) ∧ (lst = 1000000 ∨ (FeM nS nC hm L D R cap g ∧ csM nS hm D nC g = lst ∧ dg 0 nC g < N))
theorem BB_skip {car x : Nat} {s : Nat → Nat} {lst : Int} {g : Nat → Nat} (n5 : nS ≤ 5) (n7 : nC ≤ 7) (hD : ∀ h s, h < nS → s < nS → D h s ≤ 50) (hcar : car < nC) (hs : ∀ c, c < car → s c ≤ 5) (hx : x ≤ 5) (hB : BB nS nC hm L D R cap (dg 0 car s + x * ppI car) lst g) (hno : ∀ h, FeM nS nC hm L D R cap h → (∀ c, c < car → h c = s c) → h car = x → lst ≤ csM nS hm D nC h) : BB nS nC hm L D R cap (dg 0 car s + ((x + 1 : Nat) : Int) * ppI car) lst g := by
  obtain ⟨b1, b2⟩ := hB
  have pb := pp_bd car (by omega)
  have e1 : ((x + 1 : Nat) : Int) * ppI car = x * ppI car + ppI car := by push_cast; rw [Int.add_mul, Int.one_mul]
  rw [e1]
  refine ⟨fun h hF hlt => ?_, b2.imp id (fun ⟨q1, q2, q3⟩ => ⟨q1, q2, by omega⟩)⟩
  by_cases q : dg 0 nC h < dg 0 car s + x * ppI car
  · exact b1 h hF q
  · have hm' := dg_match h s x hx car 0 nC (by omega) (by omega) (fun c _ h2 => Nat.le_trans (hF.1 c (by omega)).1 n5) (fun c _ h2 => hs c (by omega)) (by rw [Nat.zero_add]; omega) (by rw [Nat.zero_add]; omega)
    rw [Nat.zero_add] at hm'
    have hle := hno h hF (fun c hc => hm'.1 c (by omega) (by omega)) hm'.2
    have hcb := csM_bd (hm := hm) hD nC h
    rcases b2 with e | ⟨q1, q2, q3⟩
    · omega
    · by_cases e : lst = csM nS hm D nC h
      · exact Or.inr ⟨e, by omega⟩
      · exact Or.inl (by omega)
theorem BB_fill {car : Nat} {s : Nat → Nat} {lst : Int} {g : Nat → Nat} (n5 : nS ≤ 5) (n7 : nC ≤ 7) (hD : ∀ h s, h < nS → s < nS → D h s ≤ 50) (hcar : car < nC) (hs : ∀ c, c < car → s c ≤ 5) : ∀ (m x : Nat), x + m = 6 → nS + 1 ≤ x → BB nS nC hm L D R cap (dg 0 car s + (x : Int) * ppI car) lst g → BB nS nC hm L D R cap (dg 0 car s + wtI car) lst g
  | 0, x, hm', hx, hB => by
    obtain rfl : x = 6 := by omega
    rw [wt_6 car (by omega)]
    exact hB
  | m + 1, x, hm', hx, hB => BB_fill n5 n7 hD hcar hs m (x + 1) (by omega) (by omega) (BB_skip n5 n7 hD hcar hs (by omega) hB (fun h hF _ e => by have := (hF.1 car hcar).1; omega))
end S20
