/-! rows of signs -/
theorem sw_s : ∀ n, n < 32 → ((nI n &&& 31).toBitVec.smod 32).toNat = n := by decide +kernel
theorem sw_bit {s i : Nat} (hs : s < 2 ^ 31) (hi : i < 32) : (((nI s >>> (nI i &&& 31)) &&& 1) = 1) ↔ s.testBit i = true := by
  have h1 : s / 2 ^ i ≤ s := Nat.div_le_self _ _
  rw [pk_shrN hs (nI i &&& 31) i (sw_s i hi), pk_andN (by omega) (m := 1) 1 rfl, Nat.testBit_eq_decide_div_mod_eq, decide_eq_true_iff]
  exact i_eq (b := 1) (by omega) (by omega)
theorem sw_shl {n : Nat} (h : n < 31) : (1 : Int32) <<< (nI n &&& 31) = nI (2 ^ n) := by
  have h1 : 2 ^ n < 2 ^ 31 := Nat.pow_lt_pow_right (by decide) h
  have := pk_shlN (n := 1) (nI n &&& 31) n (sw_s n (by omega)) (by omega)
  rw [Nat.one_mul] at this
  exact this
def Qs (R : Nat → Int) (s i : Nat) : Int := if s.testBit i = true then -R i else R i
theorem Qs_b {R : Nat → Int} {n : Nat} (hR : RB R n) (s : Nat) : RB (Qs R s) n := fun i hi => by
  have := hR i hi
  unfold Qs
  split <;> omega
def gq (F W : Nat → Int) (F0 W0 : Int) : Nat → Bool
  | 0 => false
  | j + 1 => gq F W F0 W0 j || decide (F0 * W (j + 2) ≤ F (j + 2) * W0)
theorem gq_s (F W : Nat → Int) (F0 W0 : Int) (j : Nat) : gq F W F0 W0 (j + 1) = (gq F W F0 W0 j || decide (F0 * W (j + 2) ≤ F (j + 2) * W0)) := rfl
theorem gq_ex {F W : Nat → Int} {F0 W0 : Int} : ∀ {j : Nat}, gq F W F0 W0 j = true ↔ ∃ k, k < j ∧ F0 * W (k + 2) ≤ F (k + 2) * W0 := by
  intro j
  induction j with
  | zero => simp [gq]
  | succ j ih =>
    rw [gq_s, Bool.or_eq_true, ih, decide_eq_true_iff]
    constructor
    · rintro (⟨k, h1, h2⟩ | h)
      · exact ⟨k, by omega, h2⟩
      · exact ⟨j, by omega, h⟩
    · rintro ⟨k, h1, h2⟩
      by_cases e : k = j
      · subst e; exact Or.inr h2
      · exact Or.inl ⟨k, by omega, h2⟩
theorem fr_tr {fa wa fb wb fc wc : Int} (h1 : fa * wb ≤ fb * wa) (h2 : fb * wc ≤ fc * wb) (ha : 0 < wa) (hb : 0 < wb) (hc : 0 < wc) : fa * wc ≤ fc * wa := by
  have m1 := Int.mul_le_mul_of_nonneg_right h1 (show 0 ≤ wc by omega)
  have m2 := Int.mul_le_mul_of_nonneg_right h2 (show 0 ≤ wa by omega)
  refine Int.le_of_mul_le_mul_right (?_ : fa * wc * wb ≤ fc * wa * wb) hb
  have e1 : fa * wc * wb = fa * wb * wc := by grind
  have e2 : fb * wa * wc = fb * wc * wa := by grind
  have e3 : fc * wb * wa = fc * wa * wb := by grind
  omega
theorem bsq_m {F W : Nat → Int} : ∀ {j : Nat}, (∀ k, 2 ≤ k → k ≤ j + 2 → 0 < W k) → ∀ k, 2 ≤ k → k ≤ j + 2 → F k * W (bsq F W j) ≤ F (bsq F W j) * W k := by
  intro j
  induction j with
  | zero =>
    intro hW k h1 h2
    have : k = 2 := by omega
    subst this
    exact Int.le_refl _
  | succ j ih =>
    intro hW k h1 h2
    have ih := ih (fun k a b => hW k a (by omega))
    have hb := bsq_b F W j
    rw [bsq_s]
    by_cases c : F (j + 3) * W (bsq F W j) ≤ F (bsq F W j) * W (j + 3)
    · rw [if_pos c]
      by_cases e : k = j + 3
      · subst e; exact c
      · exact ih k h1 (by omega)
    · rw [if_neg c]
      by_cases e : k = j + 3
      · subst e; exact Int.le_refl _
      · exact fr_tr (ih k h1 (by omega)) (by omega) (hW k h1 h2) (hW _ hb.1 (by omega)) (hW (j + 3) (by omega) (by omega))
/-- as great somewhere: as great at the greatest -/
theorem gq_best {F W : Nat → Int} {F0 W0 : Int} {j : Nat} (hW : ∀ k, 2 ≤ k → k ≤ j + 2 → 0 < W k) (h0 : 0 < W0) : gq F W F0 W0 (j + 1) = decide (F0 * W (bsq F W j) ≤ F (bsq F W j) * W0) := by
  have hb := bsq_b F W j
  rw [Bool.eq_iff_iff, gq_ex, decide_eq_true_iff]
  constructor
  · rintro ⟨k, h1, h2⟩
    exact fr_tr h2 (bsq_m hW (k + 2) (by omega) (by omega)) h0 (hW _ (by omega) (by omega)) (hW _ hb.1 hb.2)
  · intro h
    exact ⟨bsq F W j - 2, by omega, by rw [show bsq F W j - 2 + 2 = bsq F W j by omega]; exact h⟩
def cntq (P : Nat → Bool) : Nat → Nat
  | 0 => 0
  | m + 1 => cntq P m + if P m = true then 1 else 0
theorem cntq_s (P : Nat → Bool) (m : Nat) : cntq P (m + 1) = cntq P m + if P m = true then 1 else 0 := rfl
theorem cntq_le (P : Nat → Bool) : ∀ m, cntq P m ≤ m := by
  intro m
  induction m with
  | zero => exact Nat.le_refl _
  | succ m ih => rw [cntq_s]; split <;> omega
theorem cntq_add (P : Nat → Bool) (m : Nat) : ∀ j, cntq P (m + j) = cntq P m + cntq (fun s => P (m + s)) j := by
  intro j
  induction j with
  | zero => rfl
  | succ j ih => rw [← Nat.add_assoc, cntq_s, ih, cntq_s, Nat.add_assoc]
theorem cntq_cg {P Q : Nat → Bool} : ∀ {m : Nat}, (∀ s, s < m → P s = Q s) → cntq P m = cntq Q m := by
  intro m
  induction m with
  | zero => intro _; rfl
  | succ m ih => intro h; rw [cntq_s, cntq_s, ih (fun s hs => h s (by omega)), h m (by omega)]
theorem cntq_f (P : Nat → Bool) : ∀ m, cntq P (m + 1) = (if P 0 = true then 1 else 0) + cntq (fun s => P (s + 1)) m := by
  intro m
  induction m with
  | zero => simp [cntq]
  | succ m ih => rw [cntq_s, ih, cntq_s, Nat.add_assoc]
theorem cntq_r : ∀ (m : Nat) (P : Nat → Bool), cntq (fun s => P (m - 1 - s)) m = cntq P m := by
  intro m
  induction m with
  | zero => intro P; rfl
  | succ m ih =>
    intro P
    rw [cntq_f P, cntq_s, ← ih (fun s => P (s + 1))]
    rw [show m + 1 - 1 - m = 0 by omega, Nat.add_comm]
    congr 1
    exact cntq_cg (fun s hs => by rw [show m + 1 - 1 - s = m - 1 - s + 1 by omega])
theorem cntq_sym {P : Nat → Bool} {n : Nat} (hn : 0 < n) (h : ∀ s, s < 2 ^ n → P (2 ^ n - (s + 1)) = P s) : cntq P (2 ^ n) = 2 * cntq P (2 ^ (n - 1)) := by
  have e : 2 ^ n = 2 ^ (n - 1) + 2 ^ (n - 1) := by
    have : 2 ^ n = 2 ^ (n - 1 + 1) := by rw [Nat.sub_add_cancel hn]
    rw [this, Nat.pow_succ]; omega
  generalize 2 ^ (n - 1) = m at *
  rw [e, cntq_add]
  have e2 : cntq (fun s => P (m + s)) m = cntq P m := by
    rw [← cntq_r m P]
    refine cntq_cg (fun s hs => ?_)
    rw [← h (m - 1 - s) (by omega), e, show m + m - (m - 1 - s + 1) = m + s by omega]
  omega
theorem sum_neg {f g : Nat → Int} : ∀ {k : Nat}, (∀ i, i < k → f i = -g i) → sumI f k = -sumI g k := by
  intro k
  induction k with
  | zero => intro _; rfl
  | succ k ih =>
    intro h
    simp only [sumI]
    rw [ih (fun i hi => h i (by omega)), h k (by omega)]
    omega
theorem Qs_flip {R : Nat → Int} {n s i : Nat} (hs : s < 2 ^ n) (hi : i < n) : Qs R (2 ^ n - (s + 1)) i = -Qs R s i := by
  unfold Qs
  rw [Nat.testBit_two_pow_sub_succ hs]
  cases s.testBit i <;> simp [hi]
theorem Fq_flip {R : Nat → Int} {n s k : Nat} (hs : s < 2 ^ n) (hk : k ≤ n) : Fq (Qs R (2 ^ n - (s + 1))) n k = Fq (Qs R s) n k := by
  have e1 : sumI (Qs R (2 ^ n - (s + 1))) k = -sumI (Qs R s) k := sum_neg (fun i hi => Qs_flip hs (by omega))
  have e2 : sumI (Qs R (2 ^ n - (s + 1))) n = -sumI (Qs R s) n := sum_neg (fun i hi => Qs_flip hs hi)
  have e3 : ofs (Qs R (2 ^ n - (s + 1))) n k = -ofs (Qs R s) n k := by
    unfold ofs
    rw [e1, e2, Int.mul_neg, Int.mul_neg]
    omega
  unfold Fq
  rw [e3, Int.neg_mul_neg]
theorem gq_cg {F F2 W : Nat → Int} {F0 W0 : Int} : ∀ {j : Nat}, (∀ k, k < j + 2 → F k = F2 k) → gq F W F0 W0 j = gq F2 W F0 W0 j := by
  intro j
  induction j with
  | zero => intro _; rfl
  | succ j ih => intro h; rw [gq_s, gq_s, ih (fun k hk => h k (by omega)), h (j + 2) (by omega)]
/-- a row of signs has a G as great -/
def Pq (R : Nat → Int) (n : Nat) (F0 W0 : Int) (s : Nat) : Bool := gq (Fq (Qs R s) n) (Wq n) F0 W0 (n - 3)
theorem Pq_sym {R : Nat → Int} {n : Nat} {F0 W0 : Int} (h4 : 4 ≤ n) (s : Nat) (hs : s < 2 ^ n) : Pq R n F0 W0 (2 ^ n - (s + 1)) = Pq R n F0 W0 s := gq_cg (fun k hk => Fq_flip hs (by omega))
section SG
variable {σ : Mm} {R : Nat → Int} {n k fu s : Nat}
theorem px_signed (hn : n ≤ 24) (hX : XR σ R n) (hs : s < 2 ^ 31) {i : Nat} (hi : i < n) : f_X6_signed YF 550 (nI i) (nI s) σ = some (iI (Qs R s i), σ) := by
  unfold f_X6_signed Qs
  by_cases c : s.testBit i = true
  · rw [if_pos ((sw_bit hs (by omega)).mpr c), Y550, if_pos (inb_y (by omega) (by omega)), ix_nI (by omega), hX i hi, iI_neg, if_pos c]
  · rw [if_neg (fun q => c ((sw_bit hs (by omega)).mp q)), Y550, if_pos (inb_y (by omega) (by omega)), ix_nI (by omega), hX i hi, if_neg c]
theorem px_isAsGreat (hn4 : 4 ≤ n) (hn : n ≤ 24) (hX : XR σ R n) (hR : RB R n) (hs : s < 2 ^ 31) {F0 W0 : Int} {wt : Nat} (hF0 : 0 ≤ F0 ∧ F0 < 4000000000000000000) (hW0 : 0 < W0 ∧ W0 ≤ 1000) (hwt : Int32.toInt64 (nI wt) = lI W0) (hfu : 100 < fu) : f_X6_isAsGreat YF fu 550 (nI n) (nI s) (lI F0) (nI wt) σ = some (if Pq R n F0 W0 s = true then 1 else 0, σ) := by
  have hQ := Qs_b hR s
  have hsg := fun i (hi : i < n) => px_signed (s := s) hn hX hs hi
  unfold Pq
  generalize Qs R s = Q at *
  have key2 := lp_ind (f := s_X6_isAsGreat_43 YF fu 550 (nI n) (nI s) (lI F0) (nI wt)) (a := fun _ _ _ _ => none) (fun d K => ∀ j, j + d = n - 3 → gq (Fq Q n) (Wq n) F0 W0 j = false → K (lI (sumI Q n)) (lI (sumI Q (j + 1))) (nI (j + 2)) σ = some (if gq (Fq Q n) (Wq n) F0 W0 (n - 3) = true then 1 else 0, σ)) (by
    intro d K ih j hj hg
    unfold s_X6_isAsGreat_43
    rw [show nI n - 2 = nI (n - 2) from pk_sub (b := 2) (by omega)]
    by_cases h : n - 2 < j + 2
    · have : j = n - 3 := by omega
      subst this
      rw [if_pos ((i_lt (by omega) (by omega)).mpr h), hg]
      rfl
    · obtain ⟨f3, f4⟩ := Fq_b hn hQ (show j + 2 ≤ n by omega)
      obtain ⟨w3, w4⟩ := Wq_b hn (show 2 ≤ j + 2 by omega) (show j + 2 + 2 ≤ n by omega)
      obtain ⟨v3, v4⟩ := px_weight (σ := σ) hn (show j + 2 ≤ n by omega)
      have eS : lI (sumI Q (j + 1)) + lI (Q (j + 1)) = lI (sumI Q (j + 2)) := lI_add _ _
      rw [if_neg (i_nlt (by omega) (by omega) (by omega)), show nI (j + 2) - 1 = nI (j + 1) from pk_sub (b := 1) (by omega), hsg (j + 1) (by omega), bnd_some, lt_e, lI_R hQ (by omega), eS, lt_e, v3, bnd_some, v4, lI_nI (show n < 2 ^ 31 by omega)]
      rw [show lI (n : Int) * lI (sumI Q (j + 2)) - Int32.toInt64 (nI (j + 2)) * lI (sumI Q n) = lI (ofs Q n (j + 2)) by rw [lI_nI (by omega), lI_mul, lI_mul, lI_sub]; rfl]
      rw [show lI (ofs Q n (j + 2)) * lI (ofs Q n (j + 2)) = lI (Fq Q n (j + 2)) from lI_mul _ _, hwt, px_isAtLeast f3 f4 w3 w4 hF0.1 hF0.2 hW0.1 hW0.2, bnd_some]
      by_cases c : F0 * Wq n (j + 2) ≤ Fq Q n (j + 2) * W0
      · have : gq (Fq Q n) (Wq n) F0 W0 (n - 3) = true := gq_ex.mpr ⟨j, by omega, c⟩
        rw [if_pos c, if_neg t10, this]
        rfl
      · rw [if_neg c, if_pos rfl, lt_e, show nI (j + 2) + 1 = nI (j + 1 + 2) from nI_add (j + 2) 1]
        exact ih (d - 1) (by omega) (j + 1) (by omega) (by rw [gq_s, hg, decide_eq_false c]; rfl)) fu (n - 3) (by omega)
  have key1 := lp_ind (f := s_X6_isAsGreat_6 YF fu 550 (nI n) (nI s) (lI F0) (nI wt)) (a := fun _ _ _ => none) (fun d K => ∀ j, j + d = n → K (lI (sumI Q j)) (nI j) σ = some (if gq (Fq Q n) (Wq n) F0 W0 (n - 3) = true then 1 else 0, σ)) (by
    intro d K ih j hj
    unfold s_X6_isAsGreat_6
    by_cases h : n ≤ j
    · have : j = n := by omega
      subst this
      have h0 := key2 0 (by omega) rfl
      rw [show sumI Q (0 + 1) = Q 0 by simp [sumI]] at h0
      have hs0 := hsg 0 (by omega)
      change f_X6_signed YF 550 0 (nI s) σ = _ at hs0
      rw [if_pos ((i_le (by omega) (by omega)).mpr h), hs0, bnd_some, lt_e, lI_R hQ (by omega)]
      exact h0
    · rw [if_neg (i_nle (by omega) (by omega) (by omega)), hsg j (by omega), bnd_some, lt_e, lt_e, lI_R hQ (by omega), lI_add, show nI j + 1 = nI (j + 1) from nI_add j 1]
      exact ih (d - 1) (by omega) (j + 1) (by omega)) fu n (by omega)
  exact key1 0 (by omega)
theorem px_asGreatRows (hn4 : 4 ≤ n) (hn : n ≤ 12) (hX : XR σ R n) (hR : RB R n) (hfu : 5000 < fu) : f_X6_asGreatRows YF fu 550 (nI n) σ = some (nI (2 * cntq (Pq R n (Fq R n (bsq (Fq R n) (Wq n) (n - 4))) (Wq n (bsq (Fq R n) (Wq n) (n - 4)))) (2 ^ (n - 1))), σ) := by
  obtain ⟨b1, b2⟩ := bsq_b (Fq R n) (Wq n) (n - 4)
  unfold f_X6_asGreatRows
  rw [px_placeOf hn4 (by omega) hX hR (by omega), bnd_some, px_sumOf (by omega) hX hR (Nat.le_refl _) (by omega), bnd_some, px_squareAt (by omega) hX hR (by omega) (by omega), bnd_some]
  generalize bsq (Fq R n) (Wq n) (n - 4) = b at *
  have hF0 := Fq_b (show n ≤ 24 by omega) hR (show b ≤ n by omega)
  have hW0 := Wq_b (show n ≤ 24 by omega) b1 (show b + 2 ≤ n by omega)
  obtain ⟨v1, v2⟩ := px_weight (σ := σ) (show n ≤ 24 by omega) (show b ≤ n by omega)
  have hp : 2 ^ (n - 1) ≤ 2 ^ 11 := Nat.pow_le_pow_right (by decide) (by omega)
  exact lp_ind (f := s_X6_asGreatRows_24 YF fu 550 (nI n)) (a := fun _ _ _ _ _ => none) (fun d K => ∀ j, j + d = 2 ^ (n - 1) → K (nI b) (lI (Fq R n b)) (nI (2 * cntq (Pq R n (Fq R n b) (Wq n b)) j)) (nI j) σ = some (nI (2 * cntq (Pq R n (Fq R n b) (Wq n b)) (2 ^ (n - 1))), σ)) (by
    intro d K ih j hj
    unfold s_X6_asGreatRows_24
    rw [show nI n - 1 = nI (n - 1) from pk_sub (b := 1) (by omega), sw_shl (by omega)]
    by_cases h : 2 ^ (n - 1) ≤ j
    · have : j = 2 ^ (n - 1) := by omega
      rw [if_pos ((i_le (by omega) (by omega)).mpr h), this]
    · have hnx := ih (d - 1) (by omega) (j + 1) (by omega)
      rw [cntq_s] at hnx
      rw [if_neg (i_nle (by omega) (by omega) (by omega)), v1, bnd_some, px_isAsGreat hn4 (by omega) hX hR (by omega) hF0 hW0 v2 (by omega), bnd_some]
      unfold b_X6_asGreatRows_53
      by_cases c : Pq R n (Fq R n b) (Wq n b) j = true
      · rw [if_pos c] at hnx
        rw [if_pos c, if_neg t10, lt_e, lt_e, show nI j + 1 = nI (j + 1) from nI_add j 1, show nI (2 * cntq (Pq R n (Fq R n b) (Wq n b)) j) + 2 = nI (2 * (cntq (Pq R n (Fq R n b) (Wq n b)) j + 1)) from nI_add _ 2]
        exact hnx
      · rw [if_neg c, Nat.add_zero] at hnx
        rw [if_neg c, if_pos rfl, lt_e, show nI j + 1 = nI (j + 1) from nI_add j 1]
        exact hnx) fu (2 ^ (n - 1)) (by omega) 0 (by omega)
end SG
theorem Y631 : (YF 631).2 = 24 := rfl
/-- one row of signs of the reference -/
theorem pm_row {σ τ : Mm} {R : Nat → Int} {n fu s c : Nat} {a1 : Int32} {F0 W0 : Int} {k48 : Int64 → Int64 → Int32 → Int32 → Mm → Option (Int32 × Mm)} (hn4 : 4 ≤ n) (hn : n ≤ 12) (hR : RB R n) (hs : s < 2 ^ 31 - 1) (hF0 : 0 ≤ F0 ∧ F0 < 4000000000000000000) (hW0 : 0 < W0 ∧ W0 ≤ 1000) (hJ : Fx CJ σ τ) (h22 : Mm.gi τ 595 22 = nI n) (h16 : ∀ i, i < n → Mm.gi τ 616 i = iI (R i)) (hfu : 100 < fu) : ∃ σ', b_X12_falseShare_62 YF fu 595 a1 k48 fu (lI F0) (lI W0) (nI c) (nI s) 0 τ = k48 (lI F0) (lI W0) (nI (c + if Pq R n F0 W0 s = true then 1 else 0)) (nI (s + 1)) σ' ∧ Fx CJ σ σ' ∧ Mm.gi σ' 595 22 = nI n ∧ ∀ i, i < n → Mm.gi σ' 616 i = iI (R i) := by
  have hQ := Qs_b hR s
  exact lp_ind (f := s_X12_falseShare_62 YF fu 595 a1 k48) (a := fun _ _ _ _ _ _ => none) (fun d K => ∀ j ρ, j + d = n → Fx CJ σ ρ → Mm.gi ρ 595 22 = nI n → (∀ i, i < n → Mm.gi ρ 616 i = iI (R i)) → (∀ i, i < j → Mm.gl ρ 631 i = lI (Qs R s i)) → ∃ σ', K (lI F0) (lI W0) (nI c) (nI s) (nI j) ρ = k48 (lI F0) (lI W0) (nI (c + if Pq R n F0 W0 s = true then 1 else 0)) (nI (s + 1)) σ' ∧ Fx CJ σ σ' ∧ Mm.gi σ' 595 22 = nI n ∧ ∀ i, i < n → Mm.gi σ' 616 i = iI (R i)) (by
    intro d K ih j ρ hj hJ h22 h16 h31
    unfold s_X12_falseShare_62
    rw [h22]
    by_cases h : n ≤ j
    · obtain ⟨ρ', u1, u2, u3, u4, u5⟩ := pm_layGreat (fu := fu) hn4 (show n ≤ 24 by omega) (fun i hi => h31 i (by omega)) hQ hfu
      obtain ⟨b1, b2⟩ := bsq_b (Fq (Qs R s) n) (Wq n) (n - 4)
      have hp : Pq R n F0 W0 s = decide (F0 * Wq n (bsq (Fq (Qs R s) n) (Wq n) (n - 4)) ≤ Fq (Qs R s) n (bsq (Fq (Qs R s) n) (Wq n) (n - 4)) * W0) := by
        unfold Pq
        rw [show n - 3 = n - 4 + 1 by omega]
        exact gq_best (fun k k1 k2 => (Wq_b (by omega) k1 (by omega)).1) hW0.1
      have f := Fq_b (show n ≤ 24 by omega) hQ (show bsq (Fq (Qs R s) n) (Wq n) (n - 4) ≤ n by omega)
      have w := Wq_b (show n ≤ 24 by omega) b1 (show bsq (Fq (Qs R s) n) (Wq n) (n - 4) + 2 ≤ n by omega)
      refine ⟨ρ', ?_, hJ.tr (u2.mono (fun o k c => by unfold CJ; omega)), by rw [u2.gi (by omega)]; exact h22, fun i hi => by rw [u2.gi (by omega)]; exact h16 i hi⟩
      rw [if_pos ((i_le (by omega) (by omega)).mpr h), u1, bn1_some, u4, u5, pm_isAbove hF0.1 hF0.2 hW0.1 hW0.2 f.1 f.2 w.1 w.2, bnd_some, hp]
      unfold b_X12_falseShare_147
      by_cases q : F0 * Wq n (bsq (Fq (Qs R s) n) (Wq n) (n - 4)) ≤ Fq (Qs R s) n (bsq (Fq (Qs R s) n) (Wq n) (n - 4)) * W0
      · rw [if_pos q, if_pos rfl, decide_eq_true q, if_pos rfl, lt_e, lt_e, show nI s + 1 = nI (s + 1) from nI_add s 1, show nI c + 1 = nI (c + 1) from nI_add c 1]
      · rw [if_neg q, if_neg t10, decide_eq_false q, if_neg (by decide), lt_e, lt_e, show nI s + 1 = nI (s + 1) from nI_add s 1, Int32.add_zero]; rfl
    · have hq := hQ j (by omega)
      have hr := hR j (by omega)
      have fin : ∃ σ', b_X12_falseShare_108 YF fu 595 a1 k48 K (lI F0) (lI W0) (nI c) (nI s) (nI j) (lI (Qs R s j)) (nI j) 631 ρ = k48 (lI F0) (lI W0) (nI (c + if Pq R n F0 W0 s = true then 1 else 0)) (nI (s + 1)) σ' ∧ Fx CJ σ σ' ∧ Mm.gi σ' 595 22 = nI n ∧ ∀ i, i < n → Mm.gi σ' 616 i = iI (R i) := by
        unfold b_X12_falseShare_108
        rw [Y631, if_pos (inb_y (by omega) (by omega)), lt_e, lt_e, ix_nI (by omega), show nI j + 1 = nI (j + 1) from nI_add j 1]
        refine ih (d - 1) (by omega) (j + 1) _ (by omega) (hJ.tr (Fx.sl (by unfold CJ; omega))) h22 h16 (fun i hi => ?_)
        by_cases e : i = j
        · subst e; rw [gl_s]
        · rw [gl_n (by omega)]; exact h31 i (by omega)
      unfold Qs at fin
      rw [if_neg (i_nle (by omega) (by omega) (by omega))]
      by_cases q : s.testBit j = true
      · rw [if_pos q] at fin
        rw [if_pos ((sw_bit (by omega) (by omega)).mpr q), if_pos (inb_y (by omega) (by omega)), ix_nI (by omega), h16 j (by omega), iI_neg, lI_iI (by omega) (by omega)]
        exact fin
      · rw [if_neg q] at fin
        rw [if_neg (fun q2 => q ((sw_bit (by omega) (by omega)).mp q2)), if_pos (inb_y (by omega) (by omega)), ix_nI (by omega), h16 j (by omega), lI_iI (by omega) (by omega)]
        exact fin) fu n (by omega) 0 τ (by omega) hJ h22 h16 (fun i hi => by omega)
theorem S_falseShare {FU : Nat} (hFU : 10100 ≤ FU) : Sim_falseShare Inv FU := by
  intro a1 σ hI
  unfold f_X11_falseShare f_X12_falseShare
  by_cases c1 : 0 ≤ a1.toInt ∧ a1.toInt ≤ 3
  · obtain ⟨s, hs, rfl⟩ := i_in (n := 3) c1.1 c1.2 (by decide)
    rw [gxs_y c1]
    rcases SD_of hI (show s < 4 by omega) with ⟨q1, q2⟩ | ⟨t, md, T, v, hS⟩
    · exact ⟨-2, σ, σ, by rw [px_residuesOfn (by omega) q2, bnd_some, gx_n 4 12 rfl rfl (by decide)], by rw [gms_y c1, pm_slipn (by omega) q1, bnd_some, if_pos rfl], hI⟩
    · have hl := sd_len hS
      have hR := Rz_b hS
      obtain ⟨τ, x1, x2, x3, x4⟩ := px_residuesOf (fu := FU) hS Fx.rf (Or.inl rfl) (by omega)
      obtain ⟨τ2, y1, y2, y3, y4, y5⟩ := pm_slip (fu := FU) hS x3 (by omega)
      have hX : XR τ (Rz σ s t T v) (PL (Mm.gi σ) s t).length := fun i hi => by rw [x4 i hi]; exact iI_of _
      rw [x1, bnd_some]
      generalize Rz σ s t T v = R at *
      generalize (PL (Mm.gi σ) s t).length = n at *
      by_cases c : 4 ≤ n ∧ n ≤ 12
      · obtain ⟨b1, b2⟩ := bsq_b (Fq R n) (Wq n) (n - 4)
        have hc : (4 : Int) ≤ (nI n).toInt ∧ (nI n).toInt ≤ 12 := by rw [nI_toInt (by omega)]; omega
        obtain ⟨y6, y7⟩ := y5 c.1
        rw [if_pos c.1] at y1
        rw [gx_y 4 12 rfl rfl hc, px_asGreatRows c.1 c.2 hX hR (by omega), bnd_some]
        have hF0 := Fq_b (show n ≤ 24 by omega) hR (show bsq (Fq R n) (Wq n) (n - 4) ≤ n by omega)
        have hW0 := Wq_b (show n ≤ 24 by omega) b1 (show bsq (Fq R n) (Wq n) (n - 4) + 2 ≤ n by omega)
        have hn2 : ¬ nI (bsq (Fq R n) (Wq n) (n - 4)) = -2 := fun e => by
          have h1 : (nI (bsq (Fq R n) (Wq n) (n - 4))).toInt = (-2 : Int32).toInt := by rw [e]
          rw [nI_toInt (by omega), show (-2 : Int32).toInt = -2 from rfl] at h1
          omega
        generalize hF : Fq R n (bsq (Fq R n) (Wq n) (n - 4)) = F0 at *
        generalize hW : Wq n (bsq (Fq R n) (Wq n) (n - 4)) = W0 at *
        have hp : 2 ^ n ≤ 2 ^ 12 := Nat.pow_le_pow_right (by decide) c.2
        have key := lp_ind (f := s_X12_falseShare_48 YF FU 595 (nI s)) (a := fun _ _ _ _ _ => none) (fun d K => ∀ j ρ, j + d = 2 ^ n → Fx CJ σ ρ → Mm.gi ρ 595 22 = nI n → (∀ i, i < n → Mm.gi ρ 616 i = iI (R i)) → ∃ σ', K (lI F0) (lI W0) (nI (cntq (Pq R n F0 W0) j)) (nI j) ρ = some (nI (cntq (Pq R n F0 W0) (2 ^ n)), σ') ∧ Fx CJ σ σ') (by
          intro d K ih j ρ hj hJ h22 h16
          unfold s_X12_falseShare_48
          rw [h22, sw_shl (by omega)]
          by_cases h : 2 ^ n ≤ j
          · have : j = 2 ^ n := by omega
            exact ⟨ρ, by rw [if_pos ((i_le (by omega) (by omega)).mpr h), this], hJ⟩
          · obtain ⟨ρ', u1, u2, u3, u4⟩ := pm_row (fu := FU) (s := j) (c := cntq (Pq R n F0 W0) j) (a1 := nI s) (k48 := K) c.1 c.2 hR (by omega) hF0 hW0 hJ h22 h16 (by omega)
            rw [if_neg (i_nle (by omega) (by omega) (by omega)), u1, ← cntq_s]
            exact ih (d - 1) (by omega) (j + 1) ρ' (by omega) u2 u3 u4) FU (2 ^ n) (by omega) 0 τ2 (by omega) y2 y3 y4
        obtain ⟨σ', z1, z2⟩ := key
        refine ⟨_, τ, σ', rfl, ?_, J_inv hI z2⟩
        rw [gms_y c1, y1, bnd_some, if_neg hn2, y3, if_pos (show nI n ≤ 12 from (i_le (b := 12) (by omega) (by omega)).mpr c.2), lt_e, lt_e, y6, y7, ← cntq_sym (by omega) (fun s hs => Pq_sym c.1 s hs)]
        exact z1
      · have hc : ¬ ((4 : Int) ≤ (nI n).toInt ∧ (nI n).toInt ≤ 12) := by rw [nI_toInt (by omega)]; omega
        refine ⟨-2, τ, τ2, by rw [gx_n 4 12 rfl rfl hc], ?_, J_inv hI y2⟩
        rw [gms_y c1, y1, bnd_some]
        by_cases c4 : 4 ≤ n
        · obtain ⟨b1, b2⟩ := bsq_b (Fq R n) (Wq n) (n - 4)
          have hn2 : ¬ nI (bsq (Fq R n) (Wq n) (n - 4)) = -2 := fun e => by
            have h1 : (nI (bsq (Fq R n) (Wq n) (n - 4))).toInt = (-2 : Int32).toInt := by rw [e]
            rw [nI_toInt (by omega), show (-2 : Int32).toInt = -2 from rfl] at h1
            omega
          rw [if_pos c4, if_neg hn2, y3, if_neg (show ¬ nI n ≤ 12 from i_nle (b := 12) (by omega) (by omega) (by omega))]
        · rw [if_neg c4, if_pos rfl]
  · exact ⟨-1, σ, σ, by rw [gxs_n c1], by rw [gms_n c1], hI⟩
