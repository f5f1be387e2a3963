/-! fit -/
def ofq (σ : Mm) (i : Nat) (bl x y : Int64) (k : Nat) : Bool := decide ((if 0 < (((Int32.toInt64 (Mm.gi σ 618 k) * bl) - x) - (Int32.toInt64 (Mm.gi σ 620 (24 * i + k)) * y)) then (((Int32.toInt64 (Mm.gi σ 618 k) * bl) - x) - (Int32.toInt64 (Mm.gi σ 620 (24 * i + k)) * y)) else -(((Int32.toInt64 (Mm.gi σ 618 k) * bl) - x) - (Int32.toInt64 (Mm.gi σ 620 (24 * i + k)) * y))) ≤ Int32.toInt64 (Mm.gi σ 619 k) * bl)
def ouq (σ : Mm) (i : Nat) (bl x y : Int64) : Nat → Nat
  | 0 => 0
  | k + 1 => ouq σ i bl x y k + if ofq σ i bl x y k = true then 0 else 1
theorem ouq_s (σ : Mm) (i : Nat) (bl x y : Int64) (k : Nat) : ouq σ i bl x y (k + 1) = ouq σ i bl x y k + if ofq σ i bl x y k = true then 0 else 1 := rfl
section FT
variable {σ : Mm} {n w fu i : Nat}
theorem px_outside (hW : WY σ n w) (hi : i < w) {x y bl : Int64} (hfu : 600 < fu) : f_X0_outside YF fu 17 (nI i) x y bl σ = some (nI (ouq σ i bl x y n), σ) := by
  obtain ⟨w1, w2, w3, w4, w5, w6, w7, w8, w9⟩ := hW
  have y1 := (w9 i hi).1
  exact lp_ind (f := s_X0_outside_6 YF fu 17 (nI i) x y bl) (a := fun _ _ _ => none) (fun d k => ∀ j, j + d = n → k (nI (ouq σ i bl x y j)) (nI j) σ = some (nI (ouq σ i bl x y n), σ)) (by
    intro d k ih j hj
    unfold s_X0_outside_6
    rw [w4]
    by_cases h : n ≤ j
    · have : j = n := by omega
      subst this
      rw [if_pos ((i_le (by omega) (by omega)).mpr h)]
    · have hn := ih (d - 1) (by omega) (j + 1) (by omega)
      rw [ouq_s] at hn
      rw [if_neg (i_nle (by omega) (by omega) (by omega)), if_pos (inb_y (by omega) (by omega)), px_countOf (by omega) (by omega), bnd_some, if_pos (inb_y (by omega) (by omega)), ix_nI (by omega), (w8 j (by omega)).1, (w8 j (by omega)).2.1, (y1 j (by omega)).1]
      unfold b_X0_outside_61
      by_cases q : ofq σ i bl x y j = true
      · rw [if_pos q, Nat.add_zero] at hn
        rw [if_pos (of_decide_eq_true q), lt_e, show nI j + 1 = nI (j + 1) from nI_add j 1]
        exact hn
      · rw [if_neg q] at hn
        rw [if_neg (fun c => q (decide_eq_true c)), lt_e, lt_e, show nI j + 1 = nI (j + 1) from nI_add j 1, show nI (ouq σ i bl x y j) + 1 = nI (ouq σ i bl x y j + 1) from nI_add _ 1]
        exact hn) fu n (by omega) 0 (by omega)
theorem pm_outside (hW : WY σ n w) (hi : i < w) {x y bl : Int64} {a2 : Int32} (hfu : 600 < fu) : b_X12_fit_185 YF fu 595 (nI i) a2 fu bl x y 0 0 σ = some (Int32.toInt64 (nI (ouq σ i bl x y n)), σ) := by
  obtain ⟨w1, w2, w3, w4, w5, w6, w7, w8, w9⟩ := hW
  have y1 := (w9 i hi).1
  exact lp_ind (f := s_X12_fit_185 YF fu 595 (nI i) a2) (a := fun _ _ _ _ _ _ => none) (fun d k => ∀ j, j + d = n → k bl x y (nI (ouq σ i bl x y j)) (nI j) σ = some (Int32.toInt64 (nI (ouq σ i bl x y n)), σ)) (by
    intro d k ih j hj
    unfold s_X12_fit_185
    rw [w5]
    by_cases h : n ≤ j
    · have : j = n := by omega
      subst this
      rw [if_pos ((i_le (by omega) (by omega)).mpr h)]
    · have hn := ih (d - 1) (by omega) (j + 1) (by omega)
      rw [ouq_s] at hn
      rw [if_neg (i_nle (by omega) (by omega) (by omega)), if_pos (inb_y (by omega) (by omega)), i_lit 24, i_mul, nI_add, if_pos (inb_y (by omega) (by omega)), lt_e, pm_sizeE, bnd_some, if_pos (inb_y (by omega) (by omega)), ix_nI (by omega), ix_nI (by omega)]
      unfold b_X12_fit_254
      by_cases q : ofq σ i bl x y j = true
      · rw [if_pos q, Nat.add_zero] at hn
        rw [if_pos (of_decide_eq_true q), lt_e, lt_e, Int32.add_zero, show nI j + 1 = nI (j + 1) from nI_add j 1]
        exact hn
      · rw [if_neg q] at hn
        rw [if_neg (fun c => q (decide_eq_true c)), lt_e, lt_e, show nI j + 1 = nI (j + 1) from nI_add j 1, show nI (ouq σ i bl x y j) + 1 = nI (ouq σ i bl x y j + 1) from nI_add _ 1]
        exact hn) fu n (by omega) 0 (by omega)
end FT
/-- counts and times of way i -/
def wcq (σ : Mm) (i k : Nat) : Int := (Mm.gi σ 620 (24 * i + k)).toInt
def wtq (σ : Mm) (k : Nat) : Int := (Mm.gi σ 618 k).toInt
def fSC (σ : Mm) (i n : Nat) : Int := sumI (wcq σ i) n
def fST (σ : Mm) (n : Nat) : Int := sumI (wtq σ) n
def fCC (σ : Mm) (i n : Nat) : Int := sumI (fun k => wcq σ i k * wcq σ i k) n
def fCT (σ : Mm) (i n : Nat) : Int := sumI (fun k => wcq σ i k * wtq σ k) n
def fBL (σ : Mm) (i n : Nat) : Int := n * fCC σ i n - fSC σ i n * fSC σ i n
def fXX (σ : Mm) (i n : Nat) : Int := fST σ n * fCC σ i n - fSC σ i n * fCT σ i n
def fYY (σ : Mm) (i n : Nat) : Int := n * fCT σ i n - fSC σ i n * fST σ n
theorem fit_b {σ : Mm} {n w i : Nat} (hW : WY σ n w) (hi : i < w) : (fBL σ i n).natAbs < 2000000000000000000 ∧ (fXX σ i n).natAbs < 2000000000000000000 ∧ (fYY σ i n).natAbs < 2000000000000000000 ∧ fBL σ i n ≠ 0 := by
  obtain ⟨w1, w2, w3, w4, w5, w6, w7, w8, w9⟩ := hW
  obtain ⟨y1, y2, y3, -⟩ := w9 i hi
  have hc : ∀ k, k < n → (wcq σ i k).natAbs ≤ 20000 := fun k hk => by
    have := (y1 k hk).2
    unfold rng at this
    unfold wcq
    omega
  have ht : ∀ k, k < n → (wtq σ k).natAbs ≤ 1001500 := fun k hk => by
    have := (w8 k hk).2.2.1
    unfold rng at this
    unfold wtq
    omega
  have b1 := sumI_b (f := wcq σ i) (B := 20000) hc
  have b2 := sumI_b (f := wtq σ) (B := 1001500) ht
  have b3 := sumI_b (f := fun k => wcq σ i k * wcq σ i k) (B := 20000 * 20000) (fun k hk => mul_b (hc k hk) (hc k hk))
  have b4 := sumI_b (f := fun k => wcq σ i k * wtq σ k) (B := 20000 * 1001500) (fun k hk => mul_b (hc k hk) (ht k hk))
  have b1 : (fSC σ i n).natAbs ≤ 480000 := by unfold fSC; omega
  have b2 : (fST σ n).natAbs ≤ 24036000 := by unfold fST; omega
  have b3 : (fCC σ i n).natAbs ≤ 9600000000 := by unfold fCC; omega
  have b4 : (fCT σ i n).natAbs ≤ 480720000000 := by unfold fCT; omega
  have hv := var_p (wcq σ i) (by
    have := y3 0 (by omega)
    unfold wcq
    rw [show 24 * i + (0 + 1) = 24 * i + 1 from rfl] at this
    rw [Nat.add_zero] at this ⊢
    omega) (n - 2)
  rw [show n - 2 + 2 = n by omega] at hv
  have p1 := mul_b (a := n) (b := fCC σ i n) (A := 24) (by omega) b3
  have p2 := mul_b b1 b1
  have p3 := mul_b b2 b3
  have p4 := mul_b b1 b4
  have p5 := mul_b (a := n) (b := fCT σ i n) (A := 24) (by omega) b4
  have p6 := mul_b b1 b2
  refine ⟨?_, ?_, ?_, ?_⟩
  · unfold fBL; omega
  · unfold fXX; omega
  · unfold fYY; omega
  · unfold fBL fCC fSC; omega
theorem lN_ne0 {n : Nat} (h : 0 < n) (h2 : n < 2 ^ 63) : ¬ lN n = 0 := fun q => by
  have := (pk_lEQ (b := 0) h2 (by omega)).mp q
  omega
def fGX (σ : Mm) (i n : Nat) : Nat := Nat.gcd (fXX σ i n).natAbs (fBL σ i n).natAbs
def fGY (σ : Mm) (i n : Nat) : Nat := Nat.gcd (fYY σ i n).natAbs (fBL σ i n).natAbs
def fRR (σ : Mm) (i n : Nat) : Nat → Int64
  | 0 => lI (fXX σ i n) / lN (fGX σ i n)
  | 1 => lI (fBL σ i n) / lN (fGX σ i n)
  | 2 => lI (fYY σ i n) / lN (fGY σ i n)
  | 3 => lI (fBL σ i n) / lN (fGY σ i n)
  | _ => Int32.toInt64 (nI (ouq σ i (lI (fBL σ i n)) (lI (fXX σ i n)) (lI (fYY σ i n)) n))
theorem fG_b {σ : Mm} {n w i : Nat} (hW : WY σ n w) (hi : i < w) : ¬ lN (fGX σ i n) = 0 ∧ ¬ lN (fGY σ i n) = 0 := by
  obtain ⟨b1, b2, b3, b4⟩ := fit_b hW hi
  have hp : 0 < (fBL σ i n).natAbs := by omega
  have g1 : fGX σ i n ≤ (fBL σ i n).natAbs := Nat.gcd_le_right _ hp
  have g2 : fGY σ i n ≤ (fBL σ i n).natAbs := Nat.gcd_le_right _ hp
  exact ⟨lN_ne0 (Nat.gcd_pos_of_pos_right _ hp) (by omega), lN_ne0 (Nat.gcd_pos_of_pos_right _ hp) (by omega)⟩
theorem px_fitted {σ : Mm} {n w fu i q : Nat} (hW : WY σ n w) (hi : i < w) (hq : q ≤ 4) (hfu : 600 < fu) : f_X0_fitted YF fu 17 (nI i) (nI q) σ = some (fRR σ i n q, σ) := by
  obtain ⟨b1, b2, b3, b4⟩ := fit_b hW hi
  obtain ⟨g1, g2⟩ := fG_b hW hi
  have cx : f_X1_commonDivisor YF fu (lI (fXX σ i n)) (lI (fBL σ i n)) σ = some (lN (fGX σ i n), σ) := px_commonDivisor b2 b1 b4 (by omega)
  have cy : f_X1_commonDivisor YF fu (lI (fYY σ i n)) (lI (fBL σ i n)) σ = some (lN (fGY σ i n), σ) := px_commonDivisor b3 b1 b4 (by omega)
  have co := px_outside (x := lI (fXX σ i n)) (y := lI (fYY σ i n)) (bl := lI (fBL σ i n)) hW hi hfu
  obtain ⟨w1, w2, w3, w4, w5, w6, w7, w8, w9⟩ := hW
  have y1 := (w9 i hi).1
  have key := lp_ind (f := s_X0_fitted_14 YF fu 17 (nI i) (nI q)) (a := fun _ _ _ _ _ _ => none) (fun d k => ∀ j, j + d = n → k (lI (fSC σ i j)) (lI (fST σ j)) (lI (fCC σ i j)) (lI (fCT σ i j)) (nI j) σ = some (fRR σ i n q, σ)) (by
    intro d k ih j hj
    unfold s_X0_fitted_14
    rw [w4]
    by_cases h : n ≤ j
    · have : j = n := by omega
      subst this
      rw [if_pos ((i_le (by omega) (by omega)).mpr h), lt_e, lt_e, lt_e, lI_nI (by omega), lI_mul, lI_mul, lI_mul, lI_mul, lI_mul, lI_mul, lI_sub, lI_sub, lI_sub]
      change (if nI q = 0 then bnd (f_X1_commonDivisor YF fu (lI (fXX σ i j)) (lI (fBL σ i j)) σ) _ else if nI q = 1 then bnd (f_X1_commonDivisor YF fu (lI (fXX σ i j)) (lI (fBL σ i j)) σ) _ else if nI q = 2 then bnd (f_X1_commonDivisor YF fu (lI (fYY σ i j)) (lI (fBL σ i j)) σ) _ else if nI q = 3 then bnd (f_X1_commonDivisor YF fu (lI (fYY σ i j)) (lI (fBL σ i j)) σ) _ else bnd (f_X0_outside YF fu 17 (nI i) (lI (fXX σ i j)) (lI (fYY σ i j)) (lI (fBL σ i j)) σ) _) = _
      rw [cx, cy, co]
      have hq5 : q = 0 ∨ q = 1 ∨ q = 2 ∨ q = 3 ∨ q = 4 := by omega
      rcases hq5 with rfl | rfl | rfl | rfl | rfl
      · rw [if_pos (by decide), bnd_some, if_neg g1]; rfl
      · rw [if_neg (by decide), if_pos (by decide), bnd_some, if_neg g1]; rfl
      · rw [if_neg (by decide), if_neg (by decide), if_pos (by decide), bnd_some, if_neg g2]; rfl
      · rw [if_neg (by decide), if_neg (by decide), if_neg (by decide), if_pos (by decide), bnd_some, if_neg g2]; rfl
      · rw [if_neg (by decide), if_neg (by decide), if_neg (by decide), if_neg (by decide), bnd_some]; rfl
    · rw [if_neg (i_nle (by omega) (by omega) (by omega)), px_countOf (by omega) (by omega), bnd_some, lt_e, lt_e, if_pos (inb_y (by omega) (by omega)), lt_e, lt_e, if_pos (inb_y (by omega) (by omega)), lt_e, lt_e, ix_nI (by omega), (w8 j (by omega)).1, (y1 j (by omega)).1, lI_i, lI_i, lI_mul, lI_mul, lI_add, lI_add, lI_add, lI_add, show nI j + 1 = nI (j + 1) from nI_add j 1]
      exact ih (d - 1) (by omega) (j + 1) (by omega)) fu n (by omega)
  exact key 0 (by omega)
theorem pm_fitted {σ : Mm} {n w fu i q : Nat} (hW : WY σ n w) (hi : i < w) (hq : q ≤ 4) (hfu : 600 < fu) : b_X12_fit_61 YF fu 595 (nI i) (nI q) fu (lI n) 0 0 0 0 0 σ = some (fRR σ i n q, σ) := by
  obtain ⟨b1, b2, b3, b4⟩ := fit_b hW hi
  obtain ⟨g1, g2⟩ := fG_b hW hi
  have cx : f_X12_divisor YF fu (lI (fXX σ i n)) (lI (fBL σ i n)) σ = some (lN (fGX σ i n), σ) := pm_divisor b2 b1 (by omega)
  have cy : f_X12_divisor YF fu (lI (fYY σ i n)) (lI (fBL σ i n)) σ = some (lN (fGY σ i n), σ) := pm_divisor b3 b1 (by omega)
  have co := pm_outside (x := lI (fXX σ i n)) (y := lI (fYY σ i n)) (bl := lI (fBL σ i n)) (a2 := nI q) hW hi hfu
  obtain ⟨w1, w2, w3, w4, w5, w6, w7, w8, w9⟩ := hW
  have y1 := (w9 i hi).1
  have key := lp_ind (f := s_X12_fit_61 YF fu 595 (nI i) (nI q)) (a := fun _ _ _ _ _ _ _ => none) (fun d k => ∀ j, j + d = n → k (lI n) (lI (fSC σ i j)) (lI (fCC σ i j)) (lI (fST σ j)) (lI (fCT σ i j)) (nI j) σ = some (fRR σ i n q, σ)) (by
    intro d k ih j hj
    unfold s_X12_fit_61
    rw [w5]
    by_cases h : n ≤ j
    · have : j = n := by omega
      subst this
      rw [if_pos ((i_le (by omega) (by omega)).mpr h), lt_e, lt_e, lt_e, lI_mul, lI_mul, lI_mul, lI_mul, lI_mul, lI_mul, lI_sub, lI_sub, lI_sub, Int.mul_comm (fCC σ i j) (fST σ j)]
      change (if nI q = 4 then b_X12_fit_185 YF fu 595 (nI i) (nI q) fu (lI (fBL σ i j)) (lI (fXX σ i j)) (lI (fYY σ i j)) 0 0 σ else if 2 ≤ nI q then b_X12_fit_279 YF fu 595 (nI i) (nI q) (lI (fBL σ i j)) (lI (fYY σ i j)) σ else b_X12_fit_279 YF fu 595 (nI i) (nI q) (lI (fBL σ i j)) (lI (fXX σ i j)) σ) = _
      unfold b_X12_fit_279
      rw [cx, cy, co]
      have hq5 : q = 0 ∨ q = 1 ∨ q = 2 ∨ q = 3 ∨ q = 4 := by omega
      rcases hq5 with rfl | rfl | rfl | rfl | rfl
      · rw [if_neg (by decide), if_neg (by decide), bnd_some, if_pos (by decide), if_neg g1]; rfl
      · rw [if_neg (by decide), if_neg (by decide), bnd_some, if_neg (by decide), if_neg g1]; rfl
      · rw [if_neg (by decide), if_pos (by decide), bnd_some, if_pos (by decide), if_neg g2]; rfl
      · rw [if_neg (by decide), if_pos (by decide), bnd_some, if_neg (by decide), if_neg g2]; rfl
      · rw [if_pos (by decide)]; rfl
    · rw [if_neg (i_nle (by omega) (by omega) (by omega)), i_lit 24, i_mul, nI_add, if_pos (inb_y (by omega) (by omega)), lt_e, lt_e, lt_e, if_pos (inb_y (by omega) (by omega)), lt_e, if_pos (inb_y (by omega) (by omega)), lt_e, lt_e, ix_nI (by omega), ix_nI (by omega), lI_i, lI_i, lI_mul, lI_mul, lI_add, lI_add, lI_add, lI_add, show nI j + 1 = nI (j + 1) from nI_add j 1]
      exact ih (d - 1) (by omega) (j + 1) (by omega)) fu n (by omega)
  exact key 0 (by omega)
theorem S_fit {FU : Nat} (hFU : 10100 ≤ FU) : Sim_fit Inv FU := by
  intro a1 a2 σ hI
  unfold f_X11_fit f_X12_fit
  by_cases c0 : a1 < 0
  · exact ⟨-1000000000000000000, σ, σ, by rw [if_pos c0], by rw [if_pos c0], hI⟩
  by_cases c1 : 0 ≤ a2.toInt ∧ a2.toInt ≤ 4
  · rw [if_neg c0, gx_y 0 4 rfl rfl c1]
    have hst := px_stands hI.2.2.2.2
    by_cases c2 : Mm.gi σ 595 32 = 1
    · rw [if_pos c2] at hst
      obtain ⟨-, -, n, w, hW⟩ := IW_y hI.2.2.2.2 c2
      obtain ⟨q, hq, rfl⟩ := i_in (n := 4) c1.1 c1.2 (by decide)
      have w3 := hW.2.2.1
      have w5 := hW.2.2.2.2.1
      have w6 := hW.2.2.2.2.2.1
      have w7 := hW.2.2.2.2.2.2.1
      rw [hst, bnd_some, if_neg t10, w6]
      by_cases c3 : a1 < nI w
      · obtain ⟨i, hi, rfl⟩ : ∃ i, i < w ∧ a1 = nI i := by
          have q1 : 0 ≤ a1.toInt := by rw [Int32.lt_iff_toInt_lt] at c0; have : (0 : Int32).toInt = 0 := rfl; omega
          have q2 : a1.toInt < w := by rw [Int32.lt_iff_toInt_lt, nI_toInt (by omega)] at c3; omega
          obtain ⟨i, h1, h2⟩ := i_in (n := 500) q1 (by omega) (by decide)
          refine ⟨i, ?_, h2⟩
          rw [h2, nI_toInt (by omega)] at q2
          omega
        refine ⟨fRR σ i n q, σ, σ, ?_, ?_, hI⟩
        · rw [if_pos c3, px_fitted hW hi hq (by omega), bnd_some]
        · rw [if_neg c0, gm_y 0 4 rfl rfl c1, if_pos c2, w7, if_pos c3, w5, lt_e, lI_nI (by have := hW.2.1; omega), pm_fitted hW hi hq (by omega)]
      · exact ⟨-1000000000000000002, σ, σ, by rw [if_neg c3], by rw [if_neg c0, gm_y 0 4 rfl rfl c1, if_pos c2, w7, if_neg c3], hI⟩
    · rw [if_neg c2] at hst
      exact ⟨-1000000000000000002, σ, σ, by rw [hst, bnd_some, if_pos rfl], by rw [if_neg c0, gm_y 0 4 rfl rfl c1, if_neg c2], hI⟩
  · exact ⟨-1000000000000000000, σ, σ, by rw [if_neg c0, gx_n 0 4 rfl rfl c1], by rw [if_neg c0, gm_n 0 4 rfl rfl c1], hI⟩
