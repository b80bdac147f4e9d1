/-! THE LEAST: the thought behind the desk's way -/
theorem cnt_mono (P P' : Nat → Prop) [DecidablePred P] [DecidablePred P'] : ∀ (d i : Nat), (∀ j, i ≤ j → j < i + d → P j → P' j) → cnt P i d ≤ cnt P' i d
  | 0, i, h => Nat.le_refl _
  | d + 1, i, h => by
    have h1 := cnt_mono P P' d (i + 1) (fun j q1 q2 => h j (by omega) (by omega))
    have h2 := h i (by omega) (by omega)
    unfold cnt
    by_cases q : P i
    · rw [if_pos q, if_pos (h2 q)]; omega
    · rw [if_neg q]; omega
theorem cnt_lt (P P' : Nat → Prop) [DecidablePred P] [DecidablePred P'] (x : Nat) (hx : ¬ P x) (hx' : P' x) : ∀ (d i : Nat), (∀ j, i ≤ j → j < i + d → P j → P' j) → i ≤ x → x < i + d → cnt P i d < cnt P' i d
  | 0, i, h, h1, h2 => by omega
  | d + 1, i, h, h1, h2 => by
    unfold cnt
    by_cases e : i = x
    · subst e
      have := cnt_mono P P' d (i + 1) (fun j q1 q2 => h j (by omega) (by omega))
      rw [if_neg hx, if_pos hx']; omega
    · have := cnt_lt P P' x hx hx' d (i + 1) (fun j q1 q2 => h j (by omega) (by omega)) (by omega) (by omega)
      have h3 := h i (by omega) (by omega)
      by_cases q : P i
      · rw [if_pos q, if_pos (h3 q)]; omega
      · rw [if_neg q]; omega
theorem cnt_succ (P : Nat → Prop) [DecidablePred P] : ∀ (d i : Nat), cnt P i (d + 1) = cnt P i d + (if P (i + d) then 1 else 0)
  | 0, i => by simp [cnt]
  | d + 1, i => by
    have := cnt_succ P d (i + 1)
    unfold cnt
    rw [this, show i + 1 + d = i + (d + 1) by omega]
    omega
def up {α : Type} (g : Nat → α) (q : Nat) (v : α) : Nat → α := fun x => if x = q then v else g x
theorem up_hit {α : Type} (g : Nat → α) (q : Nat) (v : α) : up g q v q = v := if_pos rfl
theorem up_ne {α : Type} (g : Nat → α) {q x : Nat} (v : α) (h : ¬ x = q) : up g q v x = g x := if_neg h
theorem cnt_up (F : Nat → Nat) (c v x : Nat) : ∀ (d i : Nat), i ≤ c → c < i + d → cnt (fun j => up F c v j = x) i d + (if F c = x then 1 else 0) = cnt (fun j => F j = x) i d + (if v = x then 1 else 0)
  | 0, i, h1, h2 => by omega
  | d + 1, i, h1, h2 => by
    unfold cnt
    by_cases e : i = c
    · subst e
      rw [up_hit, cnt_congr (fun j => up F i v j = x) (fun j => F j = x) d (i + 1) (fun j q1 q2 => by rw [up_ne F v (by omega)])]
      omega
    · rw [up_ne F v e]
      have := cnt_up F c v x d (i + 1) (by omega) (by omega)
      omega
abbrev FAR : Int := 1000000000000000
def RS (k : Nat) (f : Nat → Nat) (al : Nat → Nat → Bool) (P : Nat → Nat → Int) (rc : Nat → Int) (cm tu sg : Nat → Nat) (T r : Nat) (B : Int) : Prop :=
  (∀ p, p < 6 → rc p = FAR ∨ (-B ≤ rc p ∧ rc p ≤ B)) ∧ (∀ p, p < 6 → al k p = true → rc p ≤ P k p) ∧
  (∀ q, q < 6 → ¬ rc q = FAR → (cm q = k ∧ al k q = true ∧ rc q = P k q ∧ sg q = 0) ∨ (cm q < k ∧ al (cm q) q = true ∧ ¬ rc (f (cm q)) = FAR ∧ (rc (f (cm q)) - P (cm q) (f (cm q)) + P (cm q) q < rc q ∨ (rc q = rc (f (cm q)) - P (cm q) (f (cm q)) + P (cm q) q ∧ tu (f (cm q)) < tu q)) ∧ sg q ≤ sg (f (cm q)) + 1)) ∧
  (∀ p, p < 6 → tu p ≤ T ∧ sg p ≤ r)
def EQc (f : Nat → Nat) (al : Nat → Nat → Bool) (P : Nat → Nat → Int) (rc : Nat → Int) (i : Nat) : Prop := ¬ rc (f i) = FAR → ∀ q, q < 6 → al i q = true → rc q ≤ rc (f i) - P i (f i) + P i q
section S16
variable {k : Nat} {f : Nat → Nat} {al : Nat → Nat → Bool} {P : Nat → Nat → Int} {rc : Nat → Int} {cm tu sg : Nat → Nat} {T r : Nat} {B : Int}
theorem RS_up {B' x : Int} {i q : Nat} (h : RS k f al P rc cm tu sg T r B) (hi : i < k) (hq : q < 6) (ha : al i q = true) (hf : ¬ rc (f i) = FAR) (hf6 : f i < 6) (ex : x = rc (f i) - P i (f i) + P i q) (hx : x < rc q) (h1 : -B' ≤ x) (h2 : x ≤ B') (hB : B ≤ B') (hB' : B' < FAR) (hr : r ≤ sg (f i) + 1) : RS k f al P (up rc q x) (up cm q i) (up tu q (T + 1)) (up sg q r) (T + 1) r B' := by
  obtain ⟨a1, a2, a3, a4⟩ := h
  have hne : ¬ f i = q := fun e => by rw [e] at ex; omega
  refine ⟨fun p hp => ?_, fun p hp hk => ?_, fun q2 hq2 hn => ?_, fun p hp => ?_⟩
  · by_cases e : p = q
    · subst e; rw [up_hit]; exact Or.inr ⟨h1, h2⟩
    · rw [up_ne rc x e]
      rcases a1 p hp with h | h
      · exact Or.inl h
      · exact Or.inr (by omega)
  · by_cases e : p = q
    · subst e; rw [up_hit]; have := a2 p hp hk; omega
    · rw [up_ne rc x e]; exact a2 p hp hk
  · by_cases e : q2 = q
    · subst e
      right
      rw [up_hit, up_hit, up_hit, up_hit, up_ne rc x hne, up_ne tu _ hne, up_ne sg _ hne]
      have := (a4 (f i) hf6).1
      exact ⟨hi, ha, hf, Or.inr ⟨ex, by omega⟩, hr⟩
    · rw [up_ne rc x e] at hn
      rw [up_ne rc x e, up_ne cm i e, up_ne tu _ e, up_ne sg _ e]
      rcases a3 q2 hq2 hn with h | ⟨b1, b2, b3, b4, b5⟩
      · exact Or.inl h
      · right
        by_cases e2 : f (cm q2) = q
        · rw [e2, up_hit, up_hit, up_hit]
          rw [e2] at b3 b4 b5
          have := (a4 q hq).2
          refine ⟨b1, b2, by omega, Or.inl ?_, by omega⟩
          rcases b4 with h | h <;> omega
        · rw [up_ne rc x e2, up_ne tu _ e2, up_ne sg _ e2]
          exact ⟨b1, b2, b3, b4, b5⟩
  · by_cases e : p = q
    · subst e; rw [up_hit, up_hit]; exact ⟨Nat.le_refl _, Nat.le_refl _⟩
    · rw [up_ne tu _ e, up_ne sg _ e]; have := a4 p hp; omega
theorem EQ_up {x : Int} {i q : Nat} (h : EQc f al P rc i) (hne : ¬ f i = q) (hx : x < rc q) : EQc f al P (up rc q x) i := by
  intro hn q' hq' ha
  rw [up_ne rc x hne] at hn ⊢
  have := h hn q' hq' ha
  by_cases e : q' = q
  · subst e; rw [up_hit]; omega
  · rw [up_ne rc x e]; exact this
/-- a price of places that no car would leave -/
def Pot (k : Nat) (f : Nat → Nat) (al : Nat → Nat → Bool) (P : Nat → Nat → Int) (cap : Nat → Nat) (pi : Nat → Int) : Prop := (∀ i q, i < k → q < 6 → al i q = true → pi q ≤ pi (f i) - P i (f i) + P i q) ∧ (∀ p, p < 6 → pi p ≤ 0) ∧ (∀ p, p < 6 → cnt (fun c => f c = p) 0 k < cap p → pi p = 0)
def Fea (k : Nat) (f : Nat → Nat) (al : Nat → Nat → Bool) (cap : Nat → Nat) : Prop := (∀ i, i < k → f i < 6 ∧ al i (f i) = true) ∧ ∀ p, p < 6 → cnt (fun c => f c = p) 0 k ≤ cap p
abbrev ltv (rc pi : Nat → Int) (tu : Nat → Nat) (x q : Nat) : Prop := rc x - pi x < rc q - pi q ∨ (rc x - pi x = rc q - pi q ∧ tu x < tu q)
theorem rank_lt {rc pi : Nat → Int} {tu : Nat → Nat} {p q : Nat} (hp : p < 6) (h : ltv rc pi tu p q) : cnt (fun x => ltv rc pi tu x p) 0 6 < cnt (fun x => ltv rc pi tu x q) 0 6 := by
  refine cnt_lt _ _ p ?_ h 6 0 (fun j _ _ hj => ?_) (by omega) (by omega)
  · unfold ltv; omega
  · unfold ltv at *; omega
theorem sg_rank {pi : Nat → Int} (h : RS k f al P rc cm tu sg T r B) (hf : ∀ i, i < k → f i < 6) (hpi : ∀ i q, i < k → q < 6 → al i q = true → pi q ≤ pi (f i) - P i (f i) + P i q) : ∀ (N q : Nat), q < 6 → ¬ rc q = FAR → cnt (fun x => ltv rc pi tu x q) 0 6 ≤ N → sg q ≤ N := by
  have step : ∀ q, q < 6 → ¬ rc q = FAR → sg q = 0 ∨ ∃ p, p < 6 ∧ ¬ rc p = FAR ∧ ltv rc pi tu p q ∧ sg q ≤ sg p + 1 := by
    intro q hq hn
    rcases h.2.2.1 q hq hn with ⟨-, -, -, e⟩ | ⟨b1, b2, b3, b4, b5⟩
    · exact Or.inl e
    · refine Or.inr ⟨f (cm q), hf _ b1, b3, ?_, b5⟩
      have := hpi (cm q) q b1 hq b2
      unfold ltv
      rcases b4 with h | h <;> omega
  intro N
  induction N with
  | zero =>
    intro q hq hn hc
    rcases step q hq hn with e | ⟨p, h1, h2, h3, h4⟩
    · omega
    · have := rank_lt h1 h3
      omega
  | succ N ih =>
    intro q hq hn hc
    rcases step q hq hn with e | ⟨p, h1, h2, h3, h4⟩
    · omega
    · have := rank_lt h1 h3
      have := ih p h1 h2 (by omega)
      omega
theorem sg_five {pi : Nat → Int} (h : RS k f al P rc cm tu sg T r B) (hf : ∀ i, i < k → f i < 6) (hpi : ∀ i q, i < k → q < 6 → al i q = true → pi q ≤ pi (f i) - P i (f i) + P i q) (q : Nat) (hq : q < 6) (hn : ¬ rc q = FAR) : sg q ≤ 5 := by
  refine sg_rank h hf hpi 5 q hq hn ?_
  have h1 := cnt_lt (fun x => ltv rc pi tu x q) (fun _ => True) q (by unfold ltv; omega) trivial 6 0 (fun _ _ _ _ => trivial) (by omega) (by omega)
  have h2 := cnt_le (fun _ => True) 6 0
  omega
/-- the sum over the cars, by places -/
theorem sum_pl (pi : Nat → Int) (g : Nat → Nat) : ∀ (d i : Nat), (∀ j, i ≤ j → j < i + d → g j < 6) → sZ (fun c => pi (g c)) i d = pi 0 * (cnt (fun c => g c = 0) i d : Int) + pi 1 * (cnt (fun c => g c = 1) i d : Int) + pi 2 * (cnt (fun c => g c = 2) i d : Int) + pi 3 * (cnt (fun c => g c = 3) i d : Int) + pi 4 * (cnt (fun c => g c = 4) i d : Int) + pi 5 * (cnt (fun c => g c = 5) i d : Int)
  | 0, i, h => by simp [sZ, cnt]
  | d + 1, i, h => by
    have ih := sum_pl pi g d (i + 1) (fun j h1 h2 => h j (by omega) (by omega))
    have hg := h i (by omega) (by omega)
    unfold sZ cnt
    rw [ih]
    have : g i = 0 ∨ g i = 1 ∨ g i = 2 ∨ g i = 3 ∨ g i = 4 ∨ g i = 5 := by omega
    rcases this with e | e | e | e | e | e <;> simp [e, Int.mul_add] <;> omega
theorem Pot_min {cap : Nat → Nat} {pi : Nat → Int} {g : Nat → Nat} (hF : Fea k f al cap) (hP : Pot k f al P cap pi) (hG : Fea k g al cap) : sZ (fun c => P c (f c)) 0 k ≤ sZ (fun c => P c (g c)) 0 k := by
  obtain ⟨p1, p2, p3⟩ := hP
  have e1 : sZ (fun c => P c (f c) - pi (f c) + pi (g c)) 0 k ≤ sZ (fun c => P c (g c)) 0 k := sZ_le _ _ k 0 (fun j _ hj => by
    have := p1 j (g j) (by omega) (hG.1 j (by omega)).1 (hG.1 j (by omega)).2
    show P j (f j) - pi (f j) + pi (g j) ≤ P j (g j)
    omega)
  have e2 : ∀ (d i : Nat), sZ (fun c => P c (f c) - pi (f c) + pi (g c)) i d = sZ (fun c => P c (f c)) i d - sZ (fun c => pi (f c)) i d + sZ (fun c => pi (g c)) i d := by
    intro d
    induction d with
    | zero => intro i; rfl
    | succ d ih => intro i; unfold sZ; rw [ih]; omega
  have e3 := sum_pl pi f k 0 (fun j _ hj => (hF.1 j (by omega)).1)
  have e4 := sum_pl pi g k 0 (fun j _ hj => (hG.1 j (by omega)).1)
  have e5 : ∀ p, p < 6 → pi p * (cnt (fun c => f c = p) 0 k : Int) ≤ pi p * (cnt (fun c => g c = p) 0 k : Int) := by
    intro p hp
    by_cases q : pi p = 0
    · rw [q, Int.zero_mul, Int.zero_mul]; exact Int.le_refl _
    · have h1 : ¬ cnt (fun c => f c = p) 0 k < cap p := fun h => q (p3 p hp h)
      have h2 := hF.2 p hp
      have h3 := hG.2 p hp
      have h4 := p2 p hp
      have := Int.mul_le_mul_of_nonneg_left (show (cnt (fun c => g c = p) 0 k : Int) ≤ (cnt (fun c => f c = p) 0 k : Int) by omega) (show 0 ≤ -pi p by omega)
      rw [Int.neg_mul, Int.neg_mul] at this
      omega
  have := e5 0 (by omega)
  have := e5 1 (by omega)
  have := e5 2 (by omega)
  have := e5 3 (by omega)
  have := e5 4 (by omega)
  have := e5 5 (by omega)
  have := e2 k 0
  omega
/-- the walk of the empty place -/
def pn (rc pi : Nat → Int) (m : Int) (p : Nat) : Int := if rc p - m ≤ pi p then rc p - m else pi p
def SH (k : Nat) (f : Nat → Nat) (al : Nat → Nat → Bool) (P : Nat → Nat → Int) (rc pi : Nat → Int) (tu : Nat → Nat) (e : Nat) (F : Nat → Nat) (q : Nat) : Prop := (∀ i, i < k → F i < 6 ∧ al i (F i) = true) ∧ (∀ i q', i < k → q' < 6 → al i q' = true → pn rc pi (rc e) q' ≤ pn rc pi (rc e) (F i) - P i (F i) + P i q') ∧ (∀ x, x < 6 → cnt (fun c => F c = x) 0 k + (if q = x then 1 else 0) = cnt (fun c => f c = x) 0 k + (if e = x then 1 else 0)) ∧ (∀ i, i < k → tu (f i) < tu q → F i = f i) ∧ q < 6 ∧ ¬ rc q = FAR ∧ rc q - rc e ≤ pi q
theorem tight (h : RS k f al P rc cm tu sg T r B) (hE : ∀ i, i < k → EQc f al P rc i) (q : Nat) (hq : q < 6) (hn : ¬ rc q = FAR) : (cm q = k ∧ al k q = true ∧ rc q = P k q) ∨ (cm q < k ∧ al (cm q) q = true ∧ ¬ rc (f (cm q)) = FAR ∧ rc q = rc (f (cm q)) - P (cm q) (f (cm q)) + P (cm q) q ∧ tu (f (cm q)) < tu q) := by
  rcases h.2.2.1 q hq hn with ⟨a, b, c, d⟩ | ⟨b1, b2, b3, b4, b5⟩
  · exact Or.inl ⟨a, b, c⟩
  · have := hE _ b1 b3 q hq b2
    refine Or.inr ⟨b1, b2, b3, ?_⟩
    rcases b4 with h | h
    · omega
    · exact h
theorem SH_0 {cap : Nat → Nat} {pi : Nat → Int} {e : Nat} (h : RS k f al P rc cm tu sg T r B) (hB : B < 100000000000) (hE : ∀ i, i < k → EQc f al P rc i) (hF : Fea k f al cap) (hP : Pot k f al P cap pi) (he : e < 6) (hne : ¬ rc e = FAR) (hop : cnt (fun c => f c = e) 0 k < cap e) : SH k f al P rc pi tu e f e := by
  refine ⟨hF.1, fun i q' hi hq ha => ?_, fun x hx => rfl, fun i hi _ => rfl, he, hne, ?_⟩
  · have h1 := hP.1 i q' hi hq ha
    have h2 := hE i hi
    have h3 := h.1 e he
    have h4 := hP.2.1 (f i) (hF.1 i hi).1
    have hFAR : FAR = 1000000000000000 := rfl
    unfold pn
    by_cases q : rc (f i) = FAR
    · split <;> split <;> omega
    · have := h2 q q' hq ha
      split <;> split <;> omega
  · rw [hP.2.2 e he hop]; omega
theorem SH_st {cap : Nat → Nat} {pi : Nat → Int} {e q : Nat} {F : Nat → Nat} (h : RS k f al P rc cm tu sg T r B) (hE : ∀ i, i < k → EQc f al P rc i) (hF : Fea k f al cap) (hP : Pot k f al P cap pi) (hS : SH k f al P rc pi tu e F q) (hc : ¬ cm q = k) : cm q < k ∧ F (cm q) = f (cm q) ∧ tu (f (cm q)) < tu q ∧ SH k f al P rc pi tu e (up F (cm q) q) (f (cm q)) := by
  obtain ⟨s1, s2, s3, s4, s5, s6, s7⟩ := hS
  rcases tight h hE q s5 s6 with ⟨a, -⟩ | ⟨b1, b2, b3, b4, b5⟩
  · exact absurd a hc
  have eF := s4 _ b1 b5
  have hp6 := (hF.1 _ b1).1
  have hpi := hP.1 _ q b1 s5 b2
  refine ⟨b1, eF, b5, fun i hi => ?_, fun i q' hi hq' ha => ?_, fun x hx => ?_, fun i hi ht => ?_, hp6, b3, by omega⟩
  · by_cases e1 : i = cm q
    · subst e1; rw [up_hit]; exact ⟨s5, b2⟩
    · rw [up_ne F q e1]; exact s1 i hi
  · by_cases e1 : i = cm q
    · subst e1
      rw [up_hit]
      have := hE _ b1 b3 q' hq' ha
      unfold pn
      rw [if_pos s7]
      split <;> omega
    · rw [up_ne F q e1]; exact s2 i q' hi hq' ha
  · have h1 := s3 x hx
    have h2 := cnt_up F (cm q) q x k 0 (by omega) (by omega)
    rw [eF] at h2
    omega
  · have e1 : ¬ i = cm q := fun e1 => by rw [e1] at ht; omega
    rw [up_ne F q e1]
    exact s4 i hi (by omega)
theorem SH_end {cap : Nat → Nat} {pi : Nat → Int} {e q : Nat} {F : Nat → Nat} (h : RS k f al P rc cm tu sg T r B) (hF : Fea k f al cap) (hP : Pot k f al P cap pi) (hS : SH k f al P rc pi tu e F q) (hE : ∀ i, i < k → EQc f al P rc i) (hc : cm q = k) (he : e < 6) (hop : cnt (fun c => f c = e) 0 k < cap e) (hmin : ∀ p, p < 6 → cnt (fun c => f c = p) 0 k < cap p → rc e ≤ rc p) : Fea (k + 1) (up F k q) al cap ∧ (∃ pi', Pot (k + 1) (up F k q) al P cap pi') ∧ ∀ x, x < 6 → cnt (fun c => up F k q c = x) 0 (k + 1) = cnt (fun c => f c = x) 0 k + (if e = x then 1 else 0) := by
  obtain ⟨s1, s2, s3, s4, s5, s6, s7⟩ := hS
  have ht : al k q = true ∧ rc q = P k q := by
    rcases tight h hE q s5 s6 with ⟨-, a, b⟩ | ⟨b1, -⟩
    · exact ⟨a, b⟩
    · omega
  have ec : ∀ x, x < 6 → cnt (fun c => up F k q c = x) 0 (k + 1) = cnt (fun c => f c = x) 0 k + (if e = x then 1 else 0) := fun x hx => by
    rw [cnt_succ, Nat.zero_add, cnt_congr (fun c => up F k q c = x) (fun c => F c = x) k 0 (fun j _ hj => by rw [up_ne F q (by omega)]), up_hit]
    exact s3 x hx
  refine ⟨⟨fun i hi => ?_, fun p hp => ?_⟩, ⟨pn rc pi (rc e), fun i q' hi hq' ha => ?_, fun p hp => ?_, fun p hp hlt => ?_⟩, ec⟩
  · by_cases e1 : i = k
    · subst e1; rw [up_hit]; exact ⟨s5, ht.1⟩
    · rw [up_ne F q e1]; exact s1 i (by omega)
  · rw [ec p hp]
    have := hF.2 p hp
    by_cases e1 : e = p
    · subst e1; rw [if_pos rfl]; omega
    · rw [if_neg e1]; omega
  · by_cases e1 : i = k
    · subst e1
      rw [up_hit]
      have := h.2.1 q' hq' ha
      have := ht.2
      unfold pn
      rw [if_pos s7]
      split <;> omega
    · rw [up_ne F q e1]; exact s2 i q' (by omega) hq' ha
  · have := hP.2.1 p hp
    unfold pn
    split <;> omega
  · rw [ec p hp] at hlt
    have h0 : cnt (fun c => f c = p) 0 k < cap p := by omega
    have h1 := hP.2.2 p hp h0
    have h2 := hmin p hp h0
    unfold pn
    split <;> omega
end S16
