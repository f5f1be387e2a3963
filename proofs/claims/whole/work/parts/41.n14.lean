/-! fractions compared; slip -/
theorem fr_m {a b c d P : Int} (h : a < c) (hb : b < P) (hd : 0 ≤ d) (hP : 0 ≤ P) : a * P + b < c * P + d := by
  have h1 := Int.mul_le_mul_of_nonneg_right (show a + 1 ≤ c by omega) hP
  rw [Int.add_mul, Int.one_mul] at h1
  omega
theorem frac_le {a b c d : Int} (hb : 0 < b) (hd : 0 < d) : (c * b ≤ a * d) ↔ (if a / b = c / d then (c % d) * b ≤ (a % b) * d else c / d ≤ a / b) := by
  have ea := Int.mul_ediv_add_emod a b
  have ec := Int.mul_ediv_add_emod c d
  have a0 := Int.emod_nonneg a (show b ≠ 0 by omega)
  have a1 := Int.emod_lt_of_pos a hb
  have c0 := Int.emod_nonneg c (show d ≠ 0 by omega)
  have c1 := Int.emod_lt_of_pos c hd
  generalize a / b = q at *
  generalize a % b = r at *
  generalize c / d = q2 at *
  generalize c % d = r2 at *
  have e1 : a * d = q * (b * d) + r * d := by rw [← ea]; grind
  have e2 : c * b = q2 * (b * d) + r2 * b := by rw [← ec]; grind
  have hP : 0 < b * d := Int.mul_pos hb hd
  have m1 : r * d < b * d := Int.mul_lt_mul_of_pos_right a1 hd
  have m2 : r2 * b < b * d := by rw [Int.mul_comm b d]; exact Int.mul_lt_mul_of_pos_right c1 hb
  have m3 : 0 ≤ r * d := Int.mul_nonneg a0 (by omega)
  have m4 : 0 ≤ r2 * b := Int.mul_nonneg c0 (by omega)
  rw [e1, e2]
  generalize r * d = u at *
  generalize r2 * b = v at *
  generalize b * d = P at *
  rcases Int.lt_trichotomy q q2 with h | h | h
  · rw [if_neg (by omega)]
    have := fr_m h m1 m4 (by omega)
    constructor <;> intro _ <;> omega
  · rw [if_pos h, h]
    generalize q2 * P = w
    constructor <;> intro _ <;> omega
  · rw [if_neg (by omega)]
    have := fr_m h m2 m3 (by omega)
    constructor <;> intro _ <;> omega
theorem ediv_b {a b : Int} (ha : 0 ≤ a) (hb : 0 < b) : 0 ≤ a / b ∧ a / b ≤ a := ⟨Int.ediv_nonneg ha (by omega), Int.ediv_le_self b ha⟩
theorem px_isAtLeast {a b c d : Int} {σ : Mm} (ha : 0 ≤ a) (ha2 : a < 4000000000000000000) (hb : 0 < b) (hb2 : b ≤ 1000) (hc : 0 ≤ c) (hc2 : c < 4000000000000000000) (hd : 0 < d) (hd2 : d ≤ 1000) : f_X1_isAtLeast YF (lI a) (lI b) (lI c) (lI d) σ = some (if c * b ≤ a * d then 1 else 0, σ) := by
  obtain ⟨p1, p2⟩ := ediv_b ha hb
  obtain ⟨p3, p4⟩ := ediv_b hc hd
  have ea : a - a / b * b = a % b := by have := Int.mul_ediv_add_emod a b; rw [Int.mul_comm]; omega
  have ec : c - c / d * d = c % d := by have := Int.mul_ediv_add_emod c d; rw [Int.mul_comm]; omega
  have a0 := Int.emod_nonneg a (show b ≠ 0 by omega)
  have a1 := Int.emod_lt_of_pos a hb
  have c0 := Int.emod_nonneg c (show d ≠ 0 by omega)
  have c1 := Int.emod_lt_of_pos c hd
  have m1 := mul_b (a := a % b) (b := d) (A := 1000) (B := 1000) (by omega) (by omega)
  have m2 := mul_b (a := c % d) (b := b) (A := 1000) (B := 1000) (by omega) (by omega)
  have hf := frac_le (a := a) (c := c) hb hd
  unfold f_X1_isAtLeast
  rw [px_floor (by omega) hb (by omega), bnd_some, px_floor (by omega) hd (by omega), bnd_some, lI_mul, lI_mul, lI_sub, lI_sub, ea, ec, lI_mul, lI_mul]
  by_cases h : a / b = c / d
  · rw [if_pos h] at hf
    rw [if_pos ((lI_eq (by omega) (by omega) (by omega) (by omega)).mpr h)]
    by_cases q : c % d * b ≤ a % b * d
    · rw [if_neg (by rw [lI_lt (by omega) (by omega) (by omega) (by omega)]; omega), if_pos (hf.mpr q)]; rfl
    · rw [if_pos (by rw [lI_lt (by omega) (by omega) (by omega) (by omega)]; omega), if_neg (fun q2 => q (hf.mp q2))]; rfl
  · rw [if_neg h] at hf
    rw [if_neg (fun q => h ((lI_eq (by omega) (by omega) (by omega) (by omega)).mp q))]
    by_cases q : c / d ≤ a / b
    · rw [if_neg (by rw [lI_le (by omega) (by omega) (by omega) (by omega)]; omega), if_pos (hf.mpr q)]; rfl
    · rw [if_pos (by rw [lI_le (by omega) (by omega) (by omega) (by omega)]; omega), if_neg (fun q2 => q (hf.mp q2))]; rfl
theorem pm_isAbove {a b c d : Int} {σ : Mm} (ha : 0 ≤ a) (ha2 : a < 4000000000000000000) (hb : 0 < b) (hb2 : b ≤ 1000) (hc : 0 ≤ c) (hc2 : c < 4000000000000000000) (hd : 0 < d) (hd2 : d ≤ 1000) : f_X12_isAbove YF (lI a) (lI b) (lI c) (lI d) σ = some (if a * d ≤ c * b then 0 else 1, σ) := by
  obtain ⟨p1, p2⟩ := ediv_b ha hb
  obtain ⟨p3, p4⟩ := ediv_b hc hd
  have ea : a - a / b * b = a % b := by have := Int.mul_ediv_add_emod a b; rw [Int.mul_comm]; omega
  have ec : c - c / d * d = c % d := by have := Int.mul_ediv_add_emod c d; rw [Int.mul_comm]; omega
  have a0 := Int.emod_nonneg a (show b ≠ 0 by omega)
  have a1 := Int.emod_lt_of_pos a hb
  have c0 := Int.emod_nonneg c (show d ≠ 0 by omega)
  have c1 := Int.emod_lt_of_pos c hd
  have m1 := mul_b (a := a % b) (b := d) (A := 1000) (B := 1000) (by omega) (by omega)
  have m2 := mul_b (a := c % d) (b := b) (A := 1000) (B := 1000) (by omega) (by omega)
  have hf := frac_le (a := c) (c := a) hd hb
  have nb : ¬ lI b = 0 := by rw [L0, lI_eq (by omega) (by omega) (by omega) (by omega)]; omega
  have nd : ¬ lI d = 0 := by rw [L0, lI_eq (by omega) (by omega) (by omega) (by omega)]; omega
  unfold f_X12_isAbove
  rw [if_neg nb, if_neg nd, if_neg nb, if_neg nd, if_neg nb, if_neg nd, lI_div (by omega) (by omega) (by omega) (by omega), lI_div (by omega) (by omega) (by omega) (by omega), Int.tdiv_eq_ediv_of_nonneg ha, Int.tdiv_eq_ediv_of_nonneg hc, lI_mul, lI_mul, lI_sub, lI_sub, ea, ec, lI_mul, lI_mul]
  by_cases h : a / b = c / d
  · rw [if_pos h.symm] at hf
    rw [if_pos ((lI_eq (by omega) (by omega) (by omega) (by omega)).mpr h)]
    by_cases q : a % b * d ≤ c % d * b
    · rw [if_pos (by rw [lI_le (by omega) (by omega) (by omega) (by omega)]; omega), if_pos (hf.mpr q)]; rfl
    · rw [if_neg (by rw [lI_le (by omega) (by omega) (by omega) (by omega)]; omega), if_neg (fun q2 => q (hf.mp q2))]; rfl
  · rw [if_neg (fun e => h e.symm)] at hf
    rw [if_neg (fun q => h ((lI_eq (by omega) (by omega) (by omega) (by omega)).mp q))]
    by_cases q : a / b ≤ c / d
    · rw [if_pos (by rw [lI_le (by omega) (by omega) (by omega) (by omega)]; omega), if_pos (hf.mpr q)]; rfl
    · rw [if_neg (by rw [lI_le (by omega) (by omega) (by omega) (by omega)]; omega), if_neg (fun q2 => q (hf.mp q2))]; rfl
/-- a residue's size -/
theorem rsq_b {σ : Mm} {s t md T v k w : Nat} (hS : SD σ s t md T v) (hk : k < (PL (Mm.gi σ) s t).length) (hw : w < 2) : (rsq (Mm.gi σ) s T ((PL (Mm.gi σ) s t).getD k 0) w).toInt.natAbs ≤ 1001700 := by
  obtain ⟨h1, h2, h3, h4, h5, h6, h7, h8, h9⟩ := hS
  have hp : (PL (Mm.gi σ) s t).getD k 0 < t := PL_lt hk
  generalize (PL (Mm.gi σ) s t).getD k 0 = p at hp
  have b := crq_b h1.2.1 h5 hp hw
  obtain ⟨m1, m2, m3, m4, m5, m6⟩ := h7
  have hN := tnq_n (g := Mm.gi σ) (s := s) (p := p) (v := w) m4.1
  have c1 := bgq_b m3 m4 _ hN.1
  have c2 := cmq_b m3 m4 hN.1
  have c0 := cmq_b m3 m4 m4.1
  have hz : (bgq (Mm.gi σ) s 0).toInt = 1000000 * (Mm.gi σ 605 s).toInt := by
    obtain ⟨-, -, -, -, r, -⟩ := m3
    unfold rng at r
    show (1000000 * Int32.toInt64 (Mm.gi σ 605 s)).toInt = _
    rw [lI_i, L1000000, lI_mul, lI_toInt (by omega) (by omega)]
  have r5 := m3.2.2.2.2.1
  unfold rng at r5
  have near := hN.2.1 0 m4.1
  rw [dz_abs, dz_abs] at near
  have c3 : -1500000000 ≤ czq (Mm.gi σ) s p w ∧ czq (Mm.gi σ) s p w ≤ 1001500000000 := by unfold czq; omega
  unfold rsq
  generalize cmq (Mm.gi σ) s (tnq (Mm.gi σ) s T p w) = x at *
  generalize cmq (Mm.gi σ) s 0 = y at *
  generalize czq (Mm.gi σ) s p w = z at *
  have hd : ((z - x.toInt).tdiv 1000000).natAbs = (z - x.toInt).natAbs / 1000000 := Int.natAbs_tdiv _ _
  rw [lI_of x, lI_sub, L1000000, lI_div (by omega) (by omega) (by omega) (by omega)]
  have e : Int64.toInt32 (lI ((z - x.toInt).tdiv 1000000)) = iI ((z - x.toInt).tdiv 1000000) := by
    unfold lI iI
    rw [Int64.toInt32_ofInt]
  rw [e, iI_toInt (by omega) (by omega)]
  omega
/-! G -/
def ofs (R : Nat → Int) (n k : Nat) : Int := (n : Int) * sumI R k - (k : Int) * sumI R n
def Fq (R : Nat → Int) (n k : Nat) : Int := ofs R n k * ofs R n k
def Wq (n k : Nat) : Int := (k : Int) * ((n - k : Nat) : Int)
def bsq (F W : Nat → Int) : Nat → Nat
  | 0 => 2
  | j + 1 => if F (j + 3) * W (bsq F W j) ≤ F (bsq F W j) * W (j + 3) then bsq F W j else j + 3
theorem bsq_s (F W : Nat → Int) (j : Nat) : bsq F W (j + 1) = if F (j + 3) * W (bsq F W j) ≤ F (bsq F W j) * W (j + 3) then bsq F W j else j + 3 := rfl
theorem bsq_b (F W : Nat → Int) : ∀ j, 2 ≤ bsq F W j ∧ bsq F W j ≤ j + 2 := by
  intro j
  induction j with
  | zero => exact ⟨Nat.le_refl _, Nat.le_refl _⟩
  | succ j ih => rw [bsq_s]; split <;> omega
def RB (R : Nat → Int) (n : Nat) : Prop := ∀ i, i < n → (R i).natAbs ≤ 1001700
theorem Fq_b {R : Nat → Int} {n k : Nat} (hn : n ≤ 24) (hR : RB R n) (hk : k ≤ n) : 0 ≤ Fq R n k ∧ Fq R n k < 4000000000000000000 := by
  have s1 := sumI_b (f := R) (B := 1001700) (n := k) (fun i hi => hR i (by omega))
  have s2 := sumI_b (f := R) (B := 1001700) (n := n) (fun i hi => hR i hi)
  have q1 : (sumI R k).natAbs ≤ 24040800 := by omega
  have q2 : (sumI R n).natAbs ≤ 24040800 := by omega
  have m1 := mul_b (a := (n : Int)) (A := 24) (by omega) q1
  have m2 := mul_b (a := (k : Int)) (A := 24) (by omega) q2
  have m3 : (ofs R n k).natAbs ≤ 1153958400 := by unfold ofs; omega
  have m4 := mul_b m3 m3
  have m5 := sq_0 (ofs R n k)
  unfold Fq
  omega
theorem Wq_b {n k : Nat} (hn : n ≤ 24) (hk : 2 ≤ k) (hk2 : k + 2 ≤ n) : 0 < Wq n k ∧ Wq n k ≤ 1000 := by
  have h1 : 0 < Wq n k := Int.mul_pos (by omega) (by omega)
  have h2 := mul_b (a := (k : Int)) (b := ((n - k : Nat) : Int)) (A := 24) (B := 24) (by omega) (by omega)
  unfold Wq at h1 ⊢
  omega
/-- the residues in row 550 -/
def XR (σ : Mm) (R : Nat → Int) (n : Nat) : Prop := ∀ i, i < n → Mm.gi σ 550 i = iI (R i)
section SL
variable {σ : Mm} {R : Nat → Int} {n k fu : Nat}
theorem lI_R (hR : RB R n) {i : Nat} (hi : i < n) : Int32.toInt64 (iI (R i)) = lI (R i) := lI_iI (by have := hR i hi; omega) (by have := hR i hi; omega)
theorem px_sumOf (hn : n ≤ 24) (hX : XR σ R n) (hR : RB R n) (hk : k ≤ n) (hfu : 100 < fu) : f_X6_sumOf YF fu 550 (nI k) σ = some (lI (sumI R k), σ) := by
  exact lp_ind (f := s_X6_sumOf_5 YF fu 550 (nI k)) (a := fun _ _ _ => none) (fun d K => ∀ j, j + d = k → K (lI (sumI R j)) (nI j) σ = some (lI (sumI R k), σ)) (by
    intro d K ih j hj
    unfold s_X6_sumOf_5
    by_cases h : k ≤ j
    · have : j = k := by omega
      subst this
      rw [if_pos ((i_le (by omega) (by omega)).mpr h)]
    · rw [if_neg (i_nle (by omega) (by omega) (by omega)), Y550, if_pos (inb_y (by omega) (by omega)), lt_e, lt_e, ix_nI (by omega), hX j (by omega), lI_R hR (by omega), lI_add, show nI j + 1 = nI (j + 1) from nI_add j 1]
      exact ih (d - 1) (by omega) (j + 1) (by omega)) fu k (by omega) 0 (by omega)
theorem px_squareAt (hn : n ≤ 24) (hX : XR σ R n) (hR : RB R n) (hk : k ≤ n) (hfu : 100 < fu) : f_X6_squareAt YF fu 550 (nI n) (nI k) (lI (sumI R n)) σ = some (lI (Fq R n k), σ) := by
  unfold f_X6_squareAt
  rw [px_sumOf hn hX hR hk hfu, bnd_some, lt_e, lI_nI (by omega), lI_nI (by omega), lI_mul, lI_mul, lI_sub, lI_mul]
  rfl
theorem px_weight (hn : n ≤ 24) (hk : k ≤ n) : f_X6_weight YF (nI n) (nI k) σ = some (nI (k * (n - k)), σ) ∧ Int32.toInt64 (nI (k * (n - k))) = lI (Wq n k) := by
  have h := Nat.mul_le_mul (show k ≤ 24 by omega) (show n - k ≤ 24 by omega)
  unfold f_X6_weight
  refine ⟨by rw [pk_sub hk, i_mul], ?_⟩
  rw [lI_nI (by omega)]
  unfold Wq
  rw [Int.natCast_mul]
theorem px_placeOf (hn4 : 4 ≤ n) (hn : n ≤ 24) (hX : XR σ R n) (hR : RB R n) (hfu : 100 < fu) : f_X6_placeOf YF fu 550 (nI n) σ = some (nI (bsq (Fq R n) (Wq n) (n - 4)), σ) := by
  have key := lp_ind (f := s_X6_placeOf_12 YF fu 550 (nI n)) (a := fun _ _ _ _ => none) (fun d K => ∀ j, j + d = n - 4 → K (lI (sumI R n)) (nI (bsq (Fq R n) (Wq n) j)) (nI (j + 3)) σ = some (nI (bsq (Fq R n) (Wq n) (n - 4)), σ)) (by
    intro d K ih j hj
    obtain ⟨b1, b2⟩ := bsq_b (Fq R n) (Wq n) j
    unfold s_X6_placeOf_12
    rw [show nI n - 2 = nI (n - 2) from pk_sub (b := 2) (by omega)]
    by_cases h : n - 2 < j + 3
    · have : j = n - 4 := by omega
      subst this
      rw [if_pos ((i_lt (by omega) (by omega)).mpr h)]
    · have hnx := ih (d - 1) (by omega) (j + 1) (by omega)
      rw [bsq_s] at hnx
      generalize bsq (Fq R n) (Wq n) j = b at *
      obtain ⟨f1, f2⟩ := Fq_b hn hR (show b ≤ n by omega)
      obtain ⟨f3, f4⟩ := Fq_b hn hR (show j + 3 ≤ n by omega)
      obtain ⟨w1, w2⟩ := Wq_b hn b1 (show b + 2 ≤ n by omega)
      obtain ⟨w3, w4⟩ := Wq_b hn (show 2 ≤ j + 3 by omega) (show j + 3 + 2 ≤ n by omega)
      obtain ⟨v1, v2⟩ := px_weight (σ := σ) hn (show b ≤ n by omega)
      obtain ⟨v3, v4⟩ := px_weight (σ := σ) hn (show j + 3 ≤ n by omega)
      rw [if_neg (i_nlt (by omega) (by omega) (by omega)), px_squareAt hn hX hR (by omega) hfu, bnd_some, v1, bnd_some, px_squareAt hn hX hR (by omega) hfu, bnd_some, v3, bnd_some, v2, v4, px_isAtLeast f1 f2 w1 w2 f3 f4 w3 w4, bnd_some]
      unfold b_X6_placeOf_60
      by_cases q : Fq R n (j + 3) * Wq n b ≤ Fq R n b * Wq n (j + 3)
      · rw [if_pos q] at hnx
        rw [if_pos q, if_neg t10, lt_e, show nI (j + 3) + 1 = nI (j + 1 + 3) from nI_add (j + 3) 1]
        exact hnx
      · rw [if_neg q] at hnx
        rw [if_neg q, if_pos rfl, lt_e, show nI (j + 3) + 1 = nI (j + 1 + 3) from nI_add (j + 3) 1]
        exact hnx) fu (n - 4) (by omega)
  unfold f_X6_placeOf
  rw [px_sumOf hn hX hR (Nat.le_refl _) hfu, bnd_some]
  exact key 0 (by omega)
/-- the greatest G, as the reference lays it -/
theorem pm_layGreat (hn4 : 4 ≤ n) (hn : n ≤ 24) (hl : ∀ i, i < n → Mm.gl σ 631 i = lI (R i)) (hR : RB R n) (hfu : 100 < fu) : ∃ σ', f_X12_layGreat YF fu 595 (nI n) σ = some σ' ∧ Fx (fun a b => a = 595 ∧ 49 ≤ b ∧ b ≤ 51) σ σ' ∧ Mm.gi σ' 595 51 = nI (bsq (Fq R n) (Wq n) (n - 4)) ∧ Mm.gl σ' 595 49 = lI (Fq R n (bsq (Fq R n) (Wq n) (n - 4))) ∧ Mm.gl σ' 595 50 = lI (Wq n (bsq (Fq R n) (Wq n) (n - 4))) := by
  generalize hC : (fun a b : Nat => a = 595 ∧ 49 ≤ b ∧ b ≤ 51) = C
  have hC0 : ∀ a b, C a b ↔ (a = 595 ∧ 49 ≤ b ∧ b ≤ 51) := fun a b => by rw [← hC]
  have key2 := lp_ind (f := s_X12_layGreat_44 YF fu 595 (nI n)) (a := fun _ _ _ _ => none) (fun d K => ∀ j τ, j + d = n - 3 → Fx C σ τ → ((j = 0 ∧ Mm.gi τ 595 51 = -4) ∨ (1 ≤ j ∧ Mm.gi τ 595 51 = nI (bsq (Fq R n) (Wq n) (j - 1)) ∧ Mm.gl τ 595 49 = lI (Fq R n (bsq (Fq R n) (Wq n) (j - 1))) ∧ Mm.gl τ 595 50 = lI (Wq n (bsq (Fq R n) (Wq n) (j - 1))))) → ∃ σ', K (lI (sumI R n)) (lI (sumI R (j + 1))) (nI (j + 2)) τ = some σ' ∧ Fx C σ σ' ∧ Mm.gi σ' 595 51 = nI (bsq (Fq R n) (Wq n) (n - 4)) ∧ Mm.gl σ' 595 49 = lI (Fq R n (bsq (Fq R n) (Wq n) (n - 4))) ∧ Mm.gl σ' 595 50 = lI (Wq n (bsq (Fq R n) (Wq n) (n - 4)))) (by
    intro d K ih j τ hj hF hU
    unfold s_X12_layGreat_44
    rw [show nI n - 2 = nI (n - 2) from pk_sub (b := 2) (by omega)]
    by_cases h : n - 2 < j + 2
    · have : j = n - 3 := by omega
      subst this
      rcases hU with ⟨q, -⟩ | ⟨q, q1, q2, q3⟩
      · omega
      · rw [show n - 3 - 1 = n - 4 by omega] at q1 q2 q3
        exact ⟨τ, by rw [if_pos ((i_lt (by omega) (by omega)).mpr h)], hF, q1, q2, q3⟩
    · have eS : lI (sumI R (j + 1)) + lI (R (j + 1)) = lI (sumI R (j + 2)) := lI_add _ _
      have eW : Int32.toInt64 (nI (j + 2)) * Int32.toInt64 (nI n - nI (j + 2)) = lI (Wq n (j + 2)) := by
        rw [pk_sub (by omega), lI_nI (by omega), lI_nI (by omega), lI_mul]; rfl
      obtain ⟨f3, f4⟩ := Fq_b hn hR (show j + 2 ≤ n by omega)
      obtain ⟨w3, w4⟩ := Wq_b hn (show 2 ≤ j + 2 by omega) (show j + 2 + 2 ≤ n by omega)
      rw [if_neg (i_nlt (by omega) (by omega) (by omega)), show nI (j + 2) - 1 = nI (j + 1) from pk_sub (b := 1) (by omega), if_pos (inb_y (by omega) (by omega)), lt_e, lt_e, ix_nI (by omega), hF.gl (by rw [hC0]; omega), hl (j + 1) (by omega), eS, lI_nI (show n < 2 ^ 31 by omega)]
      rw [show lI (n : Int) * lI (sumI R (j + 2)) - Int32.toInt64 (nI (j + 2)) * lI (sumI R n) = lI (ofs R n (j + 2)) by rw [lI_nI (by omega), lI_mul, lI_mul, lI_sub]; rfl]
      unfold b_X12_layGreat_116 b_X12_layGreat_144
      rw [show lI (ofs R n (j + 2)) * lI (ofs R n (j + 2)) = lI (Fq R n (j + 2)) from lI_mul _ _, eW]
      have take : bsq (Fq R n) (Wq n) j = j + 2 → ∃ σ', lt_ (Mm.si τ 595 51 (nI (j + 2))) (fun (σ_11 : Mm) => lt_ (Mm.sl σ_11 595 49 (lI (Fq R n (j + 2)))) (fun (σ_12 : Mm) => lt_ (Mm.sl σ_12 595 50 (lI (Wq n (j + 2)))) (fun (σ_13 : Mm) => lt_ (nI (j + 2) + 1) (fun (x6_14 : Int32) => K (lI (sumI R n)) (lI (sumI R (j + 2))) x6_14 σ_13)))) = some σ' ∧ Fx C σ σ' ∧ Mm.gi σ' 595 51 = nI (bsq (Fq R n) (Wq n) (n - 4)) ∧ Mm.gl σ' 595 49 = lI (Fq R n (bsq (Fq R n) (Wq n) (n - 4))) ∧ Mm.gl σ' 595 50 = lI (Wq n (bsq (Fq R n) (Wq n) (n - 4))) := by
        intro hb
        rw [lt_e, lt_e, lt_e, lt_e, show nI (j + 2) + 1 = nI (j + 1 + 2) from nI_add (j + 2) 1]
        refine ih (d - 1) (by omega) (j + 1) _ (by omega) (((hF.tr (Fx.si (by rw [hC0]; omega))).tr (Fx.sl (by rw [hC0]; omega))).tr (Fx.sl (by rw [hC0]; omega))) (Or.inr ⟨by omega, ?_, ?_, ?_⟩)
        · rw [gi_l, gi_l, gi_s, Nat.add_sub_cancel, hb]
        · rw [gl_n (by omega), gl_s, Nat.add_sub_cancel, hb]
        · rw [gl_s, Nat.add_sub_cancel, hb]
      rcases hU with ⟨q, q1⟩ | ⟨q, q1, q2, q3⟩
      · subst q
        rw [if_pos q1]
        exact take rfl
      · obtain ⟨i, rfl⟩ : ∃ i, j = i + 1 := ⟨j - 1, by omega⟩
        rw [Nat.add_sub_cancel] at q1 q2 q3
        obtain ⟨b1, b2⟩ := bsq_b (Fq R n) (Wq n) i
        have eb := bsq_s (Fq R n) (Wq n) i
        obtain ⟨f1, f2⟩ := Fq_b hn hR (show bsq (Fq R n) (Wq n) i ≤ n by omega)
        obtain ⟨w1, w2⟩ := Wq_b hn b1 (show bsq (Fq R n) (Wq n) i + 2 ≤ n by omega)
        rw [q1, if_neg (nI_n4 (by omega)), q2, q3, pm_isAbove f3 f4 w3 w4 f1 f2 w1 w2, bnd_some]
        by_cases c : Fq R n (i + 1 + 2) * Wq n (bsq (Fq R n) (Wq n) i) ≤ Fq R n (bsq (Fq R n) (Wq n) i) * Wq n (i + 1 + 2)
        · rw [if_pos c] at eb
          rw [if_pos c, if_pos rfl, lt_e, show nI (i + 1 + 2) + 1 = nI (i + 1 + 1 + 2) from nI_add (i + 1 + 2) 1]
          refine ih (d - 1) (by omega) (i + 1 + 1) τ (by omega) hF (Or.inr ⟨by omega, ?_, ?_, ?_⟩)
          · rw [Nat.add_sub_cancel, eb]; exact q1
          · rw [Nat.add_sub_cancel, eb]; exact q2
          · rw [Nat.add_sub_cancel, eb]; exact q3
        · rw [if_neg c] at eb
          rw [if_neg c, if_neg t10]
          exact take eb) fu (n - 3) (by omega)
  have key1 := lp_ind (f := s_X12_layGreat_5 YF fu 595 (nI n)) (a := fun _ _ _ => none) (fun d K => ∀ j, j + d = n → ∃ σ', K (lI (sumI R j)) (nI j) σ = some σ' ∧ Fx C σ σ' ∧ Mm.gi σ' 595 51 = nI (bsq (Fq R n) (Wq n) (n - 4)) ∧ Mm.gl σ' 595 49 = lI (Fq R n (bsq (Fq R n) (Wq n) (n - 4))) ∧ Mm.gl σ' 595 50 = lI (Wq n (bsq (Fq R n) (Wq n) (n - 4)))) (by
    intro d K ih j hj
    unfold s_X12_layGreat_5
    by_cases h : n ≤ j
    · have : j = n := by omega
      subst this
      rw [if_pos ((i_le (by omega) (by omega)).mpr h), lt_e, if_pos inb0, lt_e, show ix 0 = 0 from rfl, gl_i, hl 0 (by omega)]
      have h0 := key2 0 (Mm.si σ 595 51 (-4)) (by omega) (Fx.si (by rw [hC0]; omega)) (Or.inl ⟨rfl, by rw [gi_s]⟩)
      rw [show sumI R (0 + 1) = R 0 by simp [sumI]] at h0
      exact h0
    · rw [if_neg (i_nle (by omega) (by omega) (by omega)), if_pos (inb_y (by omega) (by omega)), lt_e, lt_e, ix_nI (by omega), hl j (by omega), lI_add, show nI j + 1 = nI (j + 1) from nI_add j 1]
      exact ih (d - 1) (by omega) (j + 1) (by omega)) fu n (by omega)
  exact key1 0 (by omega)
end SL
/-- the residues of a star that has a model -/
def Rz (σ : Mm) (s t T v : Nat) (i : Nat) : Int := (rsq (Mm.gi σ) s T ((PL (Mm.gi σ) s t).getD i 0) v).toInt
theorem Rz_b {σ : Mm} {s t md T v : Nat} (hS : SD σ s t md T v) : RB (Rz σ s t T v) (PL (Mm.gi σ) s t).length := fun i hi => rsq_b hS hi hS.2.2.2.1
theorem pm_slipn {σ : Mm} {s fu : Nat} (hs : s < 4) (q1 : Mm.gi σ 603 s = 0) : f_X12_slip YF fu 595 (nI s) σ = some (-2, σ) := by
  have c1 : 0 ≤ (nI s).toInt ∧ (nI s).toInt ≤ 3 := by rw [nI_toInt (by omega)]; omega
  unfold f_X12_slip
  rw [gms_y c1, pm_layRestn hs q1, bnd_some, if_pos rfl]
/-- slip of the reference, and what it leaves -/
theorem pm_slip {σ τ : Mm} {s t md T v fu : Nat} (hS : SD σ s t md T v) (hF : Fx CJ σ τ) (hfu : 10050 < fu) : ∃ σ', f_X12_slip YF fu 595 (nI s) τ = some (if 4 ≤ (PL (Mm.gi σ) s t).length then nI (bsq (Fq (Rz σ s t T v) (PL (Mm.gi σ) s t).length) (Wq (PL (Mm.gi σ) s t).length) ((PL (Mm.gi σ) s t).length - 4)) else -2, σ') ∧ Fx CJ σ σ' ∧ Mm.gi σ' 595 22 = nI (PL (Mm.gi σ) s t).length ∧ (∀ i, i < (PL (Mm.gi σ) s t).length → Mm.gi σ' 616 i = iI (Rz σ s t T v i)) ∧ (4 ≤ (PL (Mm.gi σ) s t).length → Mm.gl σ' 595 49 = lI (Fq (Rz σ s t T v) (PL (Mm.gi σ) s t).length (bsq (Fq (Rz σ s t T v) (PL (Mm.gi σ) s t).length) (Wq (PL (Mm.gi σ) s t).length) ((PL (Mm.gi σ) s t).length - 4))) ∧ Mm.gl σ' 595 50 = lI (Wq (PL (Mm.gi σ) s t).length (bsq (Fq (Rz σ s t T v) (PL (Mm.gi σ) s t).length) (Wq (PL (Mm.gi σ) s t).length) ((PL (Mm.gi σ) s t).length - 4)))) := by
  have hs := hS.2.1
  have c1 : 0 ≤ (nI s).toInt ∧ (nI s).toInt ≤ 3 := by rw [nI_toInt (by omega)]; omega
  have hl := sd_len hS
  have hR := Rz_b hS
  have h9 := (J_SD hF hS).2.2.2.2.2.2.2.2
  obtain ⟨τ1, r1, r2, r3, r4, r5, r6⟩ := sd_m (fu := fu) (w := v) hS hF hS.2.2.2.1 hfu
  have r6 : ∀ i, i < (PL (Mm.gi σ) s t).length → Mm.gi τ1 616 i = iI (Rz σ s t T v i) := fun i hi => by rw [(r6 i hi).1]; exact iI_of _
  generalize Rz σ s t T v = R at *
  generalize (PL (Mm.gi σ) s t).length = n at *
  unfold f_X12_slip
  rw [gms_y c1, h9, r1, bnd_some, if_neg t10, r4]
  by_cases c : 4 ≤ n
  · rw [if_pos (show (4 : Int32) ≤ nI n from (i_le (a := 4) (by omega) (by omega)).mpr c), if_pos c]
    exact lp_ind (f := s_X12_slip_34 YF fu 595 (nI s)) (a := fun _ _ => none) (fun d K => ∀ j ρ, j + d = n → Fx CJ σ ρ → Mm.gi ρ 595 22 = nI n → (∀ i, i < n → Mm.gi ρ 616 i = iI (R i)) → (∀ i, i < j → Mm.gl ρ 631 i = lI (R i)) → ∃ σ', K (nI j) ρ = some (nI (bsq (Fq R n) (Wq n) (n - 4)), σ') ∧ Fx CJ σ σ' ∧ Mm.gi σ' 595 22 = nI n ∧ (∀ i, i < n → Mm.gi σ' 616 i = iI (R i)) ∧ (4 ≤ n → Mm.gl σ' 595 49 = lI (Fq R n (bsq (Fq R n) (Wq n) (n - 4))) ∧ Mm.gl σ' 595 50 = lI (Wq n (bsq (Fq R n) (Wq n) (n - 4))))) (by
      intro d K ih j ρ hj hJ h22 h16 h31
      unfold s_X12_slip_34
      rw [h22]
      by_cases h : n ≤ j
      · obtain ⟨ρ', u1, u2, u3, u4, u5⟩ := pm_layGreat (fu := fu) c hl (fun i hi => h31 i (by omega)) hR (by omega)
        refine ⟨ρ', by rw [if_pos ((i_le (by omega) (by omega)).mpr h), u1, bn1_some, u3], hJ.tr (u2.mono (fun o k c => by unfold CJ; omega)), by rw [u2.gi (by omega)]; exact h22, fun i hi => by rw [u2.gi (by omega)]; exact h16 i hi, fun _ => ⟨u4, u5⟩⟩
      · rw [if_neg (i_nle (by omega) (by omega) (by omega)), if_pos (inb_y (by omega) (by omega)), if_pos (inb_y (by omega) (by omega)), lt_e, lt_e, ix_nI (by omega), h16 j (by omega), lI_R hR (by omega), show nI j + 1 = nI (j + 1) from nI_add j 1]
        refine ih (d - 1) (by omega) (j + 1) _ (by omega) (hJ.tr (Fx.sl (by unfold CJ; omega))) h22 h16 (fun i hi => ?_)
        by_cases e : i = j
        · subst e; rw [gl_s]
        · rw [gl_n (by omega)]; exact h31 i (by omega)) fu n (by omega) 0 τ1 (by omega) r3 r4 r6 (fun i hi => by omega)
  · rw [if_neg (show ¬ (4 : Int32) ≤ nI n from i_nle (a := 4) (by omega) (by omega) (by omega)), if_neg c]
    exact ⟨τ1, rfl, r3, r4, r6, fun h => absurd h c⟩
theorem S_slip {FU : Nat} (hFU : 10100 ≤ FU) : Sim_slip Inv FU := by
  intro a1 σ hI
  unfold f_X11_slip
  by_cases c1 : 0 ≤ a1.toInt ∧ a1.toInt ≤ 3
  · obtain ⟨s, hs, rfl⟩ := i_in (n := 3) c1.1 c1.2 (by decide)
    rw [gxs_y c1]
    rcases SD_of hI (show s < 4 by omega) with ⟨q1, q2⟩ | ⟨t, md, T, v, hS⟩
    · exact ⟨-2, σ, σ, by rw [px_residuesOfn (by omega) q2, bnd_some, if_neg (by decide)], pm_slipn (by omega) q1, hI⟩
    · have hl := sd_len hS
      have hR := Rz_b hS
      obtain ⟨τ, x1, x2, x3, x4⟩ := px_residuesOf (fu := FU) hS Fx.rf (Or.inl rfl) (by omega)
      obtain ⟨σ', y1, y2, y3, y4, y5⟩ := pm_slip (fu := FU) hS x3 (by omega)
      have hX : XR τ (Rz σ s t T v) (PL (Mm.gi σ) s t).length := fun i hi => by rw [x4 i hi]; exact iI_of _
      refine ⟨_, τ, σ', ?_, y1, J_inv hI y2⟩
      rw [x1, bnd_some]
      by_cases c : 4 ≤ (PL (Mm.gi σ) s t).length
      · rw [if_pos (show (4 : Int32) ≤ nI (PL (Mm.gi σ) s t).length from (i_le (a := 4) (by omega) (by omega)).mpr c), if_pos c, px_placeOf c hl hX hR (by omega), bnd_some]
      · rw [if_neg (show ¬ (4 : Int32) ≤ nI (PL (Mm.gi σ) s t).length from i_nle (a := 4) (by omega) (by omega) (by omega)), if_neg c]
  · exact ⟨-1, σ, σ, by rw [gxs_n c1], by unfold f_X12_slip; rw [gms_n c1], hI⟩
