/-! the desk's least and the model's are the same -/
section S23
variable {nS nC : Nat} {hm L cap : Nat → Nat} {D R : Nat → Nat → Nat}
def outs (k : Nat) (f : Nat → Nat) : Int := sZ (fun c => if f c = 5 then 1 else 0) 0 k
def wlk (nS : Nat) (hm : Nat → Nat) (D : Nat → Nat → Nat) (k : Nat) (f : Nat → Nat) : Int := sZ (fun c => if f c = 5 then 0 else if f c < nS ∧ hm c < nS then (D (hm c) (f c) : Int) else 0) 0 k
theorem sZ_comb (a b e : Nat → Int) (x y : Int) : ∀ (d i : Nat), sZ (fun c => x * a c + y * b c + e c) i d = x * sZ a i d + y * sZ b i d + sZ e i d
  | 0, i => by simp [sZ]
  | d + 1, i => by
    have := sZ_comb a b e x y d (i + 1)
    unfold sZ
    rw [this, Int.mul_add, Int.mul_add]
    omega
theorem TP_eq (k : Nat) (f : Nat → Nat) : sZ (fun c => PrF nS hm D c (f c)) 0 k = 279936000 * outs k f + 279936 * wlk nS hm D k f + dg 0 k f := by
  unfold outs wlk dg
  rw [← sZ_comb]
  refine sZ_eq _ _ k 0 (fun j _ _ => ?_)
  show PrF nS hm D j (f j) = _
  unfold PrF
  by_cases e : f j = 5
  · rw [if_pos e, if_pos e, if_pos e, e]; push_cast; omega
  · rw [if_neg e, if_neg e, if_neg e]; omega
theorem same_pl {f g : Nat → Nat} (n5 : nS ≤ 5) (n7 : nC ≤ 7) (hD : ∀ h s, h < nS → s < nS → D h s ≤ 50) (hF : Fea nC f (alF nS hm L D R) (cpF nS cap)) (hP : ∃ pi, Pot nC f (alF nS hm L D R) (PrF nS hm D) (cpF nS cap) pi) (hG : FeM nS nC hm L D R cap g) (hM : ∀ h, FeM nS nC hm L D R cap h → csM nS hm D nC g < csM nS hm D nC h ∨ (csM nS hm D nC g = csM nS hm D nC h ∧ dg 0 nC g ≤ dg 0 nC h)) : ∀ c, c < nC → (f c = 5 ∧ g c = nS) ∨ (f c < nS ∧ g c = f c ∧ okb hm L D R c (f c) = true) := by
  obtain ⟨pi, hPi⟩ := hP
  have hf : ∀ c, c < nC → f c = 5 ∨ (f c < nS ∧ okb hm L D R c (f c) = true) := fun c hc => by
    have := (hF.1 c hc).2
    unfold alF at this
    by_cases e : f c = 5
    · exact Or.inl e
    · rw [if_neg e] at this; simp at this; exact Or.inr this
  -- the other way of naming
  have hf' : FeM nS nC hm L D R cap (fun c => if f c = 5 then nS else f c) := by
    refine ⟨fun c hc => ?_, fun s hs => ?_⟩
    · show (if f c = 5 then nS else f c) ≤ nS ∧ ((if f c = 5 then nS else f c) = nS ∨ okb hm L D R c (if f c = 5 then nS else f c) = true)
      rcases hf c hc with h | ⟨h1, h2⟩
      · rw [if_pos h]; exact ⟨Nat.le_refl _, Or.inl rfl⟩
      · rw [if_neg (by omega)]; exact ⟨by omega, Or.inr h2⟩
    · have h1 := hF.2 s (by omega)
      unfold cpF at h1
      rw [if_neg (by omega), if_pos hs] at h1
      refine Nat.le_trans (cnt_mono _ _ nC 0 (fun j _ hj q => ?_)) h1
      have q' : (if f j = 5 then nS else f j) = s := q
      split at q' <;> omega
  have hg' : Fea nC (fun c => if g c = nS then 5 else g c) (alF nS hm L D R) (cpF nS cap) := by
    refine ⟨fun c hc => ?_, fun p hp => ?_⟩
    · have h0 := hG.1 c hc
      show (if g c = nS then 5 else g c) < 6 ∧ alF nS hm L D R c (if g c = nS then 5 else g c) = true
      by_cases e : g c = nS
      · rw [if_pos e]; exact ⟨by omega, alF5 c⟩
      · rw [if_neg e]
        refine ⟨by omega, ?_⟩
        unfold alF
        rw [if_neg (by omega), h0.2.resolve_left e]
        simp; omega
    · unfold cpF
      by_cases e : p = 5
      · rw [if_pos e]; exact Nat.le_trans (cnt_le _ nC 0) n7
      · rw [if_neg e]
        by_cases q : p < nS
        · rw [if_pos q]
          refine Nat.le_trans (cnt_mono _ _ nC 0 (fun j _ hj q => ?_)) (hG.2 p q)
          have q' : (if g j = nS then 5 else g j) = p := q
          split at q' <;> omega
        · rw [if_neg q]
          have h2 : ∀ d i, cnt (fun c => False) i d = 0 := fun d => by
            induction d with
            | zero => intro i; rfl
            | succ d ih => intro i; unfold cnt; rw [ih]; simp
          have h3 : cnt (fun c => (if g c = nS then 5 else g c) = p) 0 nC ≤ cnt (fun c => False) 0 nC := cnt_mono _ _ nC 0 (fun j _ hj q' => by
            have := (hG.1 j (by omega)).1
            split at q' <;> omega)
          rw [h2] at h3
          exact h3
  have m1 := Pot_min hF hPi hg'
  rw [TP_eq, TP_eq] at m1
  have m2 := hM _ hf'
  -- the model's cost, by outs and walks
  have cs1 : ∀ h h' : Nat → Nat, (∀ c, c < nC → (h c = 5 ∧ h' c = nS) ∨ (h c < nS ∧ h' c = h c)) → csM nS hm D nC h' = 10000 * outs nC h + wlk nS hm D nC h := fun h h' hh => by
    have e : (10000 : Int) * outs nC h + wlk nS hm D nC h = 10000 * sZ (fun c => if h c = 5 then 1 else 0) 0 nC + 0 * sZ (fun c => if h c = 5 then 1 else 0) 0 nC + sZ (fun c => if h c = 5 then 0 else if h c < nS ∧ hm c < nS then (D (hm c) (h c) : Int) else 0) 0 nC := by unfold outs wlk; omega
    rw [e, ← sZ_comb]
    refine sZ_eq _ _ nC 0 (fun j _ hj => ?_)
    show cM nS hm D j (h' j) = _
    unfold cM
    rcases hh j (by omega) with ⟨a1, a2⟩ | ⟨a1, a2⟩
    · rw [if_pos a2, if_pos a1, if_pos a1]; omega
    · rw [if_neg (show ¬ h' j = nS by omega), a2, if_neg (show ¬ h j = 5 by omega), if_neg (show ¬ h j = 5 by omega)]; omega
  have ef := cs1 f (fun c => if f c = 5 then nS else f c) (fun c hc => by
    show (f c = 5 ∧ (if f c = 5 then nS else f c) = nS) ∨ (f c < nS ∧ (if f c = 5 then nS else f c) = f c)
    rcases hf c hc with h | ⟨h1, h2⟩
    · rw [if_pos h]; exact Or.inl ⟨h, rfl⟩
    · rw [if_neg (by omega)]; exact Or.inr ⟨h1, rfl⟩)
  have eg := cs1 (fun c => if g c = nS then 5 else g c) g (fun c hc => by
    have h0 := (hG.1 c hc).1
    show ((if g c = nS then 5 else g c) = 5 ∧ g c = nS) ∨ ((if g c = nS then 5 else g c) < nS ∧ g c = (if g c = nS then 5 else g c))
    by_cases e : g c = nS
    · rw [if_pos e]; exact Or.inl ⟨rfl, e⟩
    · rw [if_neg e]; exact Or.inr ⟨by omega, rfl⟩)
  have wb : ∀ h : Nat → Nat, 0 ≤ wlk nS hm D nC h ∧ wlk nS hm D nC h ≤ 50 * nC := fun h => sZ_bd (fun j _ => by
    show 0 ≤ (if h j = 5 then 0 else if h j < nS ∧ hm j < nS then (D (hm j) (h j) : Int) else 0) ∧ (if h j = 5 then 0 else if h j < nS ∧ hm j < nS then (D (hm j) (h j) : Int) else 0) ≤ 50
    split
    · omega
    · split
      · rename_i q; have := hD (hm j) (h j) q.2 q.1; omega
      · omega)
  have w1 := wb f
  have w2 := wb (fun c => if g c = nS then 5 else g c)
  have b1 := dg_bd f nC 0 (by omega) (fun c _ hc => by have := (hF.1 c (by omega)).1; omega)
  have b2 := dg_bd (fun c => if g c = nS then 5 else g c) nC 0 (by omega) (fun c _ hc => Nat.le_of_lt_succ (hg'.1 c (by omega)).1)
  have wp := wt_pos (0 + nC) (by omega)
  have w0 : wtI 0 = 279936 := rfl
  have o1 : outs nC f = outs nC (fun c => if g c = nS then 5 else g c) := by omega
  have o2 : wlk nS hm D nC f = wlk nS hm D nC (fun c => if g c = nS then 5 else g c) := by omega
  have ecs : csM nS hm D nC g = csM nS hm D nC (fun c => if f c = 5 then nS else f c) := by omega
  have hdg : dg 0 nC g ≤ dg 0 nC (fun c => if f c = 5 then nS else f c) := by
    rcases m2 with h | h
    · omega
    · exact h.2
  have hdf : dg 0 nC f ≤ dg 0 nC (fun c => if g c = nS then 5 else g c) := by omega
  rcases dg_lex g (fun c => if f c = 5 then nS else f c) nC 0 (by omega) (fun c _ hc => ⟨Nat.le_trans (hG.1 c (by omega)).1 n5, Nat.le_trans (hf'.1 c (by omega)).1 n5⟩) hdg with r | ⟨c, r1, r2, r3, r4⟩
  · intro c hc
    have := r c (by omega) (by omega)
    have e : g c = if f c = 5 then nS else f c := this
    rcases hf c hc with h | ⟨h1, h2⟩
    · rw [if_pos h] at e; exact Or.inl ⟨h, e⟩
    · rw [if_neg (by omega)] at e; exact Or.inr ⟨h1, e, h2⟩
  · exfalso
    have tr : ∀ c, c < nC → (if (if f c = 5 then nS else f c) = nS then 5 else (if f c = 5 then nS else f c)) = f c := fun c hc => by
      rcases hf c hc with h | ⟨h1, h2⟩
      · rw [if_pos h, if_pos rfl, h]
      · rw [if_neg (show ¬ f c = 5 by omega), if_neg (show ¬ f c = nS by omega)]
    have := lex_dg (fun c => if g c = nS then 5 else g c) f c nC 0 (by omega) (fun c _ hc => ⟨Nat.le_of_lt_succ (hg'.1 c (by omega)).1, Nat.le_of_lt_succ (hF.1 c (by omega)).1⟩) r1 r2 (fun c' h1 h2 => by
      have e : g c' = if f c' = 5 then nS else f c' := r3 c' h1 h2
      show (if g c' = nS then 5 else g c') = f c'
      rw [e]; exact tr c' (by omega)) (by
      have e : g c < if f c = 5 then nS else f c := r4
      show (if g c = nS then 5 else g c) < f c
      rcases hf c (by omega) with h | ⟨h1, h2⟩
      · rw [if_pos h] at e; rw [if_neg (by omega)]; omega
      · rw [if_neg (by omega)] at e; rw [if_neg (by omega)]; omega)
    omega
end S23
