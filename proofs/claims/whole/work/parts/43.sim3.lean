/-! bits (begun from the kit's bits to paste) -/
def bt (x : Int32) (i : Nat) : Bool := x.toBitVec.getLsbD i
theorem b_ext {x y : Int32} (h : ∀ i, i < 32 → bt x i = bt y i) : x = y := Int32.toBitVec_inj.mp (BitVec.eq_of_getLsbD_eq (fun i hi => h i hi))
theorem b_or (x y : Int32) (i : Nat) : bt (x ||| y) i = (bt x i || bt y i) := by unfold bt; rw [Int32.toBitVec_or, BitVec.getLsbD_or]
theorem b_and (x y : Int32) (i : Nat) : bt (x &&& y) i = (bt x i && bt y i) := by unfold bt; rw [Int32.toBitVec_and, BitVec.getLsbD_and]
theorem b_xor (x y : Int32) (i : Nat) : bt (x ^^^ y) i = (bt x i ^^ bt y i) := by unfold bt; rw [Int32.toBitVec_xor, BitVec.getLsbD_xor]
theorem b_0 (i : Nat) : bt 0 i = false := BitVec.getLsbD_zero
theorem s_l : ∀ n, n < 32 → ((nI n &&& 31).toBitVec.smod 32).toNat = n := by decide +kernel
theorem b_sshr (n : Nat) (hn : n < 32) (x : Int32) {i : Nat} (hi : i < 32) : bt (x >>> (nI n &&& 31)) i = if n + i < 32 then bt x (n + i) else bt x 31 := by
  unfold bt
  rw [Int32.toBitVec_shiftRight]
  show (x.toBitVec.sshiftRight ((nI n &&& 31).toBitVec.smod 32).toNat).getLsbD i = _
  rw [s_l n hn, BitVec.getLsbD_sshiftRight, BitVec.msb_eq_getLsbD_last]
  simp [hi]
theorem b_one : ∀ l, l < 32 → ((1 : Int32) <<< (nI l &&& 31)).toBitVec = BitVec.twoPow 32 l := by decide +kernel
theorem b_tp (l : Nat) (hl : l < 32) (i : Nat) : bt ((1 : Int32) <<< (nI l &&& 31)) i = (decide (i < 32) && decide (l = i)) := by
  unfold bt
  rw [b_one l hl, BitVec.getLsbD_twoPow]
  by_cases h : l = i
  · subst h; simp [hl]
  · simp [h]
theorem b_1 (i : Nat) (hi : i < 32) : bt 1 i = decide (i = 0) := (by decide +kernel : ∀ i, i < 32 → bt 1 i = decide (i = 0)) i hi
theorem pb_bt {x : Int32} {j : Nat} (hj : j < 32) : pb x j ↔ bt x j = true := by
  unfold pb
  constructor
  · intro h
    cases hb : bt x j with
    | true => rfl
    | false =>
      refine absurd (b_ext fun i hi => ?_) h
      rw [b_and, b_tp j hj, b_0]
      by_cases e : j = i
      · subst e; simp [hb]
      · simp [e]
  · intro h e
    have h2 : bt (x &&& ((1 : Int32) <<< (nI j &&& 31))) j = false := by rw [e, b_0]
    rw [b_and, b_tp j hj, h] at h2
    simp [hj] at h2
theorem hb_bt {x : Int32} {h : Nat} (hh : h < 32) : hb x h ↔ bt x h = true := by
  unfold hb
  constructor
  · intro e
    have h2 : bt ((x >>> (nI h &&& 31)) &&& 1) 0 = true := by rw [e]; decide
    rw [b_and, b_sshr h hh x (by decide), if_pos (by omega)] at h2
    simp at h2
    exact h2.1
  · intro e
    refine b_ext fun i hi => ?_
    rw [b_and, b_1 i hi, b_sshr h hh x hi]
    by_cases h0 : i = 0
    · subst h0; simp [hh, e]
    · simp [h0]
section S3
variable {Q : Int32 → pd_M → Prop} {M : pd_M} {a1 a2 a3 a4 : Int32} {n : Nat}
/-- a right: 2 freely, 1 by a card, 0 not -/
def rgt (free : Prop) (k r : Int32) : Prop := (free → r = 2) ∧ (¬ free → k ≤ 0 → r = 0) ∧ (¬ free → ¬ k ≤ 0 → r = 1)
theorem rgt_one {f f' : Prop} {k r r' : Int32} (h : rgt f k r) (h' : rgt f' k r') (e : f ↔ f') : r = r' := by
  rcases Classical.em f with hf | hf
  · rw [h.1 hf, h'.1 (e.mp hf)]
  · have hf' : ¬ f' := fun q => hf (e.mpr q)
    rcases Classical.em (k ≤ 0) with hk | hk
    · rw [h.2.1 hf hk, h'.2.1 hf' hk]
    · rw [h.2.2 hf hk, h'.2.2 hf' hk]
def fX (M : pd_M) (c z h : Nat) : Prop := ¬ hb (M.1 2 z) h ∨ ∃ t, t < 3 ∧ pb (M.1 27 c) (z * 3 + t) ∧ hb (M.1 (4 + z) t) h
def fM (M : pd_M) (c z h : Nat) : Prop := ¬ inH h (M.1 93 z) (M.1 94 z) ∨ ∃ t, t < 3 ∧ ¬ M.1 89 ((4 * c + z) * 3 + t) = 0 ∧ inH h (M.1 95 (3 * z + t)) (M.1 96 (3 * z + t))
theorem q_z3 (z t : Nat) : nI z * 3 + nI t = nI (z * 3 + t) := by rw [show (3 : Int32) = nI 3 from rfl, pk_mul, nI_add]
theorem X0_hasPermit_w {c z t : Nat} (hc : c < 7) (h0 : ¬ pb (M.1 27 c) (z * 3 + t) → Q 0 M) (h1 : pb (M.1 27 c) (z * 3 + t) → Q 1 M) : wX0_hasPermit Q (nI c) (nI t) (nI z) M := by
  refine ⟨vp_in_nI hc (by decide), ?_⟩
  show (_ → _) ∧ _
  rw [q_z3, q_cl (by omega)]
  exact ⟨fun e => h0 (fun p => p e), fun e => h1 e⟩
theorem X7_isRuled_w {z h : Nat} (hz : z < 4) (h0 : ¬ hb (M.1 2 z) h → Q 0 M) (h1 : hb (M.1 2 z) h → Q 1 M) : wX7_isRuled Q (nI z) (nI h) M := by
  refine ⟨vp_in_nI hz (by decide), ?_⟩
  rw [q_cl (by omega)]
  exact ⟨h0, h1⟩
theorem X7_isGood_w {z t h : Nat} (hz : z < 4) (ht : t < 3) (h0 : ¬ hb (M.1 (4 + z) t) h → Q 0 M) (h1 : hb (M.1 (4 + z) t) h → Q 1 M) : wX7_isGood Q (nI z) (nI t) (nI h) M := by
  refine ⟨vp_in_nI hz (by decide), vp_in_nI ht (by decide), ?_⟩
  rw [q_cl (by omega), q_cl (by omega)]
  exact ⟨h0, h1⟩
theorem l_right {K : pd_M → Prop} {c z h : Nat} (hc : c < 7) (hz : z < 4) : ∀ (d t : Nat), t + d = 3 → (∀ u, u < t → ¬ (pb (M.1 27 c) (z * 3 + u) ∧ hb (M.1 (4 + z) u) h)) → ((∃ t, t < 3 ∧ pb (M.1 27 c) (z * 3 + t) ∧ hb (M.1 (4 + z) t) h) → Q 2 M) → ((¬ ∃ t, t < 3 ∧ pb (M.1 27 c) (z * 3 + t) ∧ hb (M.1 (4 + z) t) h) → K M) → lpX0_right_17 Q K (nI c) (nI z) (nI h) (d + 1) (nI t) M
  | 0, t, hd, hu, h2, hk => by
    refine ⟨fun _ => hk (fun ⟨u, h3, h4⟩ => hu u (by omega) h4), fun h => absurd ?_ h⟩
    rw [show (3 : Int32) = nI 3 from rfl, n_le (by decide) (by omega)]; omega
  | d + 1, t, hd, hu, h2, hk => by
    refine ⟨fun h => absurd h ?_, fun _ => ?_⟩
    · rw [show (3 : Int32) = nI 3 from rfl, n_le (by decide) (by omega)]; omega
    · refine X0_hasPermit_w hc (fun hp => q_z0 (fun x ex => ?_)) (fun hp => q_z1 ?_)
      · rw [nI_1] at ex
        subst ex
        exact l_right hc hz d (t + 1) (by omega) (fun u h3 h4 => by
          by_cases e : u = t
          · subst e; exact hp h4.1
          · exact hu u (by omega) h4) h2 hk
      · refine X7_isGood_w hz (by omega) (fun hg => q_z0 (fun x ex => ?_)) (fun hg => q_z1 (h2 ⟨t, by omega, hp, hg⟩))
        rw [nI_1] at ex
        subst ex
        exact l_right hc hz d (t + 1) (by omega) (fun u h3 h4 => by
          by_cases e : u = t
          · subst e; exact hg h4.2
          · exact hu u (by omega) h4) h2 hk
theorem X0_right_w {c z h : Nat} (hc : c < 7) (hz : z < 4) (hQ : ∀ r, rgt (fX M c z h) (M.1 (29 + c) z) r → Q r M) : wX0_right Q (nI c) (nI z) (nI h) M := by
  refine X7_isRuled_w hz (fun hr => q_y0 (hQ 2 ⟨fun _ => rfl, fun n => absurd (Or.inl hr) n, fun n => absurd (Or.inl hr) n⟩)) (fun hr => q_y1 ⟨4, ?_⟩)
  refine l_right hc hz 3 0 (by omega) (fun u h => by omega) (fun he => hQ 2 ⟨fun _ => rfl, fun n => absurd (Or.inr he) n, fun n => absurd (Or.inr he) n⟩) (fun he => ?_)
  have hf : ¬ fX M c z h := fun q => q.elim (fun n => n hr) he
  refine ⟨vp_in_nI hc (by decide), vp_in_nI hz (by decide), ?_⟩
  rw [q_cl (by omega), q_cl (by omega)]
  exact ⟨fun hk => hQ 0 ⟨fun q => absurd q hf, fun _ _ => rfl, fun _ n => absurd hk n⟩, fun hk => hQ 1 ⟨fun q => absurd q hf, fun _ q => absurd q hk, fun _ _ => rfl⟩⟩
theorem X9_isWithin_w {h : Nat} {a b : Int32} (h0 : ¬ inH h a b → Q 0 M) (h1 : inH h a b → Q 1 M) : wX9_isWithin Q (nI h) a b M := by
  have nl : ∀ x y : Int32, ¬ x < y → y ≤ x := fun x y hq => by rw [q_lt] at hq; rw [q_le]; omega
  have ln : ∀ x y : Int32, x < y → ¬ y ≤ x := fun x y hq => by rw [q_lt] at hq; rw [q_le]; omega
  refine ⟨fun ha => ⟨fun hba => ⟨fun hah => h1 ⟨ha, ?_⟩, fun hah => ⟨fun hbh => h0 (fun q => ?_), fun hbh => h1 ⟨ha, ?_⟩⟩⟩, fun hba => ⟨fun hah => h0 (fun q => ?_), fun hah => ⟨fun hbh => h0 (fun q => ?_), fun hbh => h1 ⟨ha, ?_⟩⟩⟩⟩, fun ha => h0 (fun q => ha q.1)⟩
  · rw [if_pos hba]; exact Or.inl hah
  · have := q.2; rw [if_pos hba] at this
    rcases this with q | q
    · exact hah q
    · exact ln _ _ hbh q
  · rw [if_pos hba]; exact Or.inr (nl _ _ hbh)
  · have := q.2; rw [if_neg hba] at this; exact ln _ _ hah this.1
  · have := q.2; rw [if_neg hba] at this; exact ln _ _ hbh this.2
  · rw [if_neg hba]; exact ⟨nl _ _ hah, nl _ _ hbh⟩
theorem l_mayIn {K : Int32 → pd_M → Prop} {c z h : Nat} (hc : c < 7) (hz : z < 4) (f : Prop) (hK1 : (f ∨ ∃ t, t < 3 ∧ ¬ M.1 89 ((4 * c + z) * 3 + t) = 0 ∧ inH h (M.1 95 (3 * z + t)) (M.1 96 (3 * z + t))) → K 1 M) (hK0 : ¬ (f ∨ ∃ t, t < 3 ∧ ¬ M.1 89 ((4 * c + z) * 3 + t) = 0 ∧ inH h (M.1 95 (3 * z + t)) (M.1 96 (3 * z + t))) → K 0 M) : ∀ (d t : Nat) (v : Int32), t + d = 3 → (v = 1 ∧ (f ∨ ∃ u, u < t ∧ ¬ M.1 89 ((4 * c + z) * 3 + u) = 0 ∧ inH h (M.1 95 (3 * z + u)) (M.1 96 (3 * z + u))) ∨ v = 0 ∧ ¬ f ∧ ∀ u, u < t → ¬ (¬ M.1 89 ((4 * c + z) * 3 + u) = 0 ∧ inH h (M.1 95 (3 * z + u)) (M.1 96 (3 * z + u)))) → lpX9_mayIn_29 K (nI c) (nI z) (nI h) (d + 1) v (nI t) M
  | 0, t, v, hd, hv => by
    refine ⟨fun _ => ?_, fun h => absurd ?_ h⟩
    · rcases hv with ⟨rfl, hv⟩ | ⟨rfl, h1, h2⟩
      · exact hK1 (hv.imp id (fun ⟨u, h3, h4⟩ => ⟨u, by omega, h4⟩))
      · exact hK0 (fun q => q.elim h1 (fun ⟨u, h3, h4⟩ => h2 u (by omega) h4))
    · rw [show (3 : Int32) = nI 3 from rfl, n_le (by decide) (by omega)]; omega
  | d + 1, t, v, hd, hv => by
    refine ⟨fun h => absurd h ?_, fun _ x6 e6 => ?_⟩
    · rw [show (3 : Int32) = nI 3 from rfl, n_le (by decide) (by omega)]; omega
    · rw [q_c3] at e6
      rcases hv with ⟨rfl, hv⟩ | ⟨rfl, h1, h2⟩
      · refine q_y1 (fun x ex => ?_)
        rw [nI_1] at ex
        subst ex
        exact l_mayIn hc hz f hK1 hK0 d (t + 1) 1 (by omega) (Or.inl ⟨rfl, hv.imp id (fun ⟨u, h3, h4⟩ => ⟨u, by omega, h4⟩)⟩)
      · have e0 : ((4 * nI c + nI z) * 3 + nI t) = nI ((4 * c + z) * 3 + t) := by rw [q_c4, show (3 : Int32) = nI 3 from rfl, pk_mul, nI_add]
        refine q_y0 ?_
        rw [e0, q_cl (by omega), e6]
        refine ⟨vp_in_nI (by omega) (by decide), ?_, ?_⟩
        · intro h9 x ex
          rw [nI_1] at ex
          subst ex
          exact l_mayIn hc hz f hK1 hK0 d (t + 1) 0 (by omega) (Or.inr ⟨rfl, h1, fun u h3 h4 => by
            by_cases e : u = t
            · subst e; exact h4.1 h9
            · exact h2 u (by omega) h4⟩)
        · intro h9
          refine ⟨vp_in_nI (by omega) (by decide), vp_in_nI (by omega) (by decide), ?_⟩
          rw [q_cl (by omega)]
          refine X9_isWithin_w (fun hi => q_z0 (fun x ex => ?_)) (fun hi => q_z1 (fun x ex => ?_))
          · rw [nI_1] at ex
            subst ex
            exact l_mayIn hc hz f hK1 hK0 d (t + 1) 0 (by omega) (Or.inr ⟨rfl, h1, fun u h3 h4 => by
              by_cases e : u = t
              · subst e; exact hi h4.2
              · exact h2 u (by omega) h4⟩)
          · rw [nI_1] at ex
            subst ex
            exact l_mayIn hc hz f hK1 hK0 d (t + 1) 1 (by omega) (Or.inl ⟨rfl, Or.inr ⟨t, by omega, h9, hi⟩⟩)
theorem X9_mayIn_w {c z h : Nat} (hc : c < 7) (hz : z < 4) (hQ : ∀ r, rgt (fM M c z h) (M.1 90 (4 * c + z)) r → Q r M) : wX9_mayIn Q (nI c) (nI z) (nI h) M := by
  have hv : vp_in (nI z) 4 := vp_in_nI hz (by decide)
  refine ⟨hv, hv, ?_⟩
  rw [q_cl (by omega), q_c4, q_cl (by omega)]
  have hi : vp_in (nI (4 * c + z)) 28 := vp_in_nI (by omega) (by decide)
  have k1 : fM M c z h → Q 2 M := fun hf => hQ 2 ⟨fun _ => rfl, fun n => absurd hf n, fun n => absurd hf n⟩
  have k0 : ¬ fM M c z h → ((M.1 90 (4 * c + z) ≤ 0 → Q 0 M) ∧ (¬ M.1 90 (4 * c + z) ≤ 0 → Q 1 M)) := fun hf => ⟨fun hk => hQ 0 ⟨fun q => absurd q hf, fun _ _ => rfl, fun _ n => absurd hk n⟩, fun hk => hQ 1 ⟨fun q => absurd q hf, fun _ q => absurd q hk, fun _ _ => rfl⟩⟩
  refine X9_isWithin_w (fun hn => q_y0 ⟨4, ?_⟩) (fun hn => q_y1 ⟨4, ?_⟩)
  · refine l_mayIn hc hz (¬ inH h (M.1 93 z) (M.1 94 z)) (fun hf => q_z1 (k1 hf)) (fun hf => q_z0 ⟨hi, k0 hf⟩) 3 0 1 (by omega) (Or.inl ⟨rfl, Or.inl hn⟩)
  · refine l_mayIn hc hz (¬ inH h (M.1 93 z) (M.1 94 z)) (fun hf => q_z1 (k1 hf)) (fun hf => q_z0 ⟨hi, k0 hf⟩) 3 0 0 (by omega) (Or.inr ⟨rfl, fun n => n hn, fun u h => by omega⟩)
theorem fX_fM {nS nC c z h : Nat} (hc : I_c nS nC M) (hr : I_r M) (hcn : c < nC) (n7 : nC ≤ 7) (hz : z < 4) (hh : h < 24) : fX M c z h ↔ fM M c z h := by
  obtain ⟨-, -, -, hp⟩ := hc c hcn (by omega)
  obtain ⟨r1, r2⟩ := hr z hz
  unfold fX fM
  rw [r1 h hh]
  refine or_congr Iff.rfl ⟨fun ⟨t, h1, h2, h3⟩ => ⟨t, h1, ?_, (r2 t h1 h hh).mp h3⟩, fun ⟨t, h1, h2, h3⟩ => ⟨t, h1, ?_, (r2 t h1 h hh).mpr h3⟩⟩
  · rcases hp z t hz h1 with ⟨-, q⟩ | ⟨q, -⟩
    · exact absurd h2 q
    · rw [q]; decide
  · rcases hp z t hz h1 with ⟨q, -⟩ | ⟨-, q⟩
    · exact absurd q h2
    · exact q
end S3
theorem sim_may (a1 a2 a3 : Int32) : sim (fun Q M => wX8_may Q a1 a2 a3 M) (fun Q M => wX9_may Q a1 a2 a3 M) := by
  intro M K hI hK
  have hK0 := hK M hI
  obtain ⟨nS, nC, nT, hn, hf, hs, hsu, hc, hcu, ho, hr, ht, hx⟩ := hI
  obtain ⟨n5, n7, n20, h8, h82, h24, h826, h60, h8217⟩ := id hn
  refine q_isCar h24 n7 (fun h => q_z0 ?_) (fun h1 => q_z1 ?_)
  · exact r_isCar h826 n7 (fun _ => q_z0 (fin hK0)) (fun q => absurd q h)
  refine q_isStreet h8 n5 (fun h => q_z0 ?_) (fun h2 => q_z1 ?_)
  · exact r_isCar h826 n7 (fun q => absurd h1 q) (fun _ => q_z1 (r_isStreet h82 n5 (fun _ => q_z0 (fin hK0)) (fun q => absurd q h)))
  refine q_isHour (fun h => q_y0 ?_) (fun h3 => q_y1 ?_)
  · exact r_isCar h826 n7 (fun q => absurd h1 q) (fun _ => q_z1 (r_isStreet h82 n5 (fun q => absurd h2 q) (fun _ => q_z1 (r_isHour (fun _ => q_z0 (fin hK0)) (fun q => absurd q h)))))
  refine ⟨q_mono h2 n5, ?_⟩
  obtain ⟨c, hcn, rfl⟩ := vp_in_of h1 (by omega)
  obtain ⟨s, hsn, rfl⟩ := vp_in_of h2 (by omega)
  obtain ⟨y, hy, rfl⟩ := vp_in_of h3 (by omega)
  obtain ⟨⟨e83, v9⟩, -⟩ := hs s hsn (by omega)
  obtain ⟨e9, l9⟩ := q_of v9 (by decide)
  rw [q_cl (by omega), e9]
  refine X0_right_w (by omega) l9 (fun r hr1 => ?_)
  refine r_isCar h826 n7 (fun q => absurd h1 q) (fun _ => q_z1 (r_isStreet h82 n5 (fun q => absurd h2 q) (fun _ => q_z1 (r_isHour (fun q => absurd h3 q) (fun _ => q_z1 ⟨q_mono h2 n5, ?_⟩)))))
  rw [q_cl (by omega), e83, e9]
  refine X9_mayIn_w (by omega) l9 (fun r2 hr2 => ?_)
  rw [((hc c hcn (by omega)).2.2.1 _ l9).1] at hr2
  rw [rgt_one hr1 hr2 (fX_fM hc hr hcn n7 l9 hy)]
  exact fin hK0
