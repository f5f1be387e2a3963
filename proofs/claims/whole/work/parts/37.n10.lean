/-! floors -/
theorem l_nn (x : Int64) : 0 ≤ x ↔ x.toBitVec.msb = false := by
  rw [Int64.le_iff_toInt_le, BitVec.msb_eq_toInt]
  show (0 : Int) ≤ x.toBitVec.toInt ↔ _
  simp
theorem l_xor {a b : Int64} (hb : 0 < b.toInt) : (0 ≤ (a ^^^ b)) ↔ 0 ≤ a.toInt := by
  have h1 : b.toBitVec.msb = false := (l_nn b).mp (by rw [Int64.le_iff_toInt_le]; show (0 : Int) ≤ _; omega)
  have h2 : (a ^^^ b).toBitVec.msb = a.toBitVec.msb := by
    rw [Int64.toBitVec_xor, BitVec.msb_xor, h1, Bool.xor_false]
  rw [l_nn, h2, ← l_nn, Int64.le_iff_toInt_le]
  exact Iff.rfl
theorem ceil_eq (a b : Int) (hb : 0 < b) : (a + b - 1) / b = -((-a) / b) := by
  have h1 := Int.mul_ediv_add_emod (-a) b
  have h2 := Int.emod_nonneg (-a) (show b ≠ 0 by omega)
  have h3 := Int.emod_lt_of_pos (-a) hb
  generalize (-a) / b = r at h1 ⊢
  generalize (-a) % b = m at h1 h2 h3
  rw [show a + b - 1 = (b - 1 - m) + b * (-r) by grind, Int.add_mul_ediv_left _ _ (by omega), Int.ediv_eq_zero_of_lt (by omega) (by omega)]
  omega
theorem jx_floorDiv {a b : Int} {σ : Mm} (ha : a.natAbs < 9000000000000000000) (hb : 0 < b) (hb2 : b < 9000000000000000000) : f_J9_floorDiv_f86c9 YF (lI a) (lI b) σ = some (lI (a / b), σ) := by
  have tb : (lI b).toInt = b := lI_toInt (by omega) (by omega)
  have ta : (lI a).toInt = a := lI_toInt (by omega) (by omega)
  have nz : ¬ lI b = 0 := by rw [L0, lI_eq (by omega) (by omega) (by omega) (by omega)]; omega
  have hd := Int.natAbs_tdiv_le_natAbs a b
  unfold f_J9_floorDiv_f86c9
  rw [if_neg nz, lt_e, lI_div (by omega) (by omega) (by omega) (by omega)]
  by_cases c : 0 ≤ a
  · rw [if_pos ((l_xor (by rw [tb]; exact hb)).mpr (by rw [ta]; exact c)), Int.tdiv_eq_ediv_of_nonneg c]
  · rw [if_neg (by rw [l_xor (by rw [tb]; exact hb), ta]; exact c), lI_mul]
    have hm := Int.mul_tdiv_add_tmod a b
    have h2 : a.tdiv b = -((-a) / b) := by
      have : a.tdiv b = -((-a).tdiv b) := by rw [Int.neg_tdiv]; omega
      rw [this, Int.tdiv_eq_ediv_of_nonneg (by omega)]
    have hc := ceil_eq a b hb
    have e1 := Int.mul_ediv_add_emod a b
    have e2 := Int.emod_nonneg a (show b ≠ 0 by omega)
    have e3 := Int.emod_lt_of_pos a hb
    have f1 := Int.mul_ediv_add_emod (-a) b
    have f2 := Int.emod_nonneg (-a) (show b ≠ 0 by omega)
    have f3 := Int.emod_lt_of_pos (-a) hb
    have hab : (a.tdiv b * b).natAbs ≤ a.natAbs := by
      rw [Int.mul_comm]
      have := Int.natAbs_tdiv a b
      have h5 : (b * a.tdiv b).natAbs = b.natAbs * (a.natAbs / b.natAbs) := by rw [Int.natAbs_mul, Int.natAbs_tdiv]; rfl
      rw [h5]
      exact Nat.mul_div_le _ _
    by_cases c2 : a.tdiv b * b = a
    · rw [if_pos (by rw [c2])]
      have : a / b = a.tdiv b := by
        conv => lhs; rw [← c2]
        exact Int.mul_ediv_cancel _ (by omega)
      rw [this]
    · rw [if_neg (by rw [lI_eq (by omega) (by omega) (by omega) (by omega)]; exact c2), L1, lI_sub]
      have : a.tdiv b - 1 = a / b := by
        rw [h2] at c2 ⊢
        -- a = b * (-r) - m with 0 < m
        generalize (-a) / b = r at f1 c2 ⊢
        generalize (-a) % b = m at f1 f2 f3
        have hm0 : m ≠ 0 := by
          intro hm0
          apply c2
          subst hm0
          grind
        have : a = (b - m) + b * (-r - 1) := by grind
        rw [this, Int.add_mul_ediv_left _ _ (by omega), Int.ediv_eq_zero_of_lt (by omega) (by omega)]
        omega
      rw [this]
theorem px_floor {a b : Int} {σ : Mm} (ha : a.natAbs < 9000000000000000000) (hb : 0 < b) (hb2 : b < 9000000000000000000) : f_X1_floor YF (lI a) (lI b) σ = some (lI (a / b), σ) := by
  have e : (if 1 < lI b then lI b else 1) = lI b := by
    rw [L1]
    by_cases c : 1 < b
    · rw [if_pos ((lI_lt (by omega) (by omega) (by omega) (by omega)).mpr c)]
    · rw [if_neg (by rw [lI_lt (by omega) (by omega) (by omega) (by omega)]; exact c), show b = 1 by omega]
  unfold f_X1_floor
  rw [e, jx_floorDiv ha hb hb2, bnd_some]
theorem px_ceiling {a b : Int} {σ : Mm} (ha : a.natAbs < 9000000000000000000) (hb : 0 < b) (hb2 : b < 9000000000000000000) : f_X1_ceiling YF (lI a) (lI b) σ = some (lI (-((-a) / b)), σ) := by
  have e : (if 1 < lI b then lI b else 1) = lI b := by
    rw [L1]
    by_cases c : 1 < b
    · rw [if_pos ((lI_lt (by omega) (by omega) (by omega) (by omega)).mpr c)]
    · rw [if_neg (by rw [lI_lt (by omega) (by omega) (by omega) (by omega)]; exact c), show b = 1 by omega]
  unfold f_X1_ceiling
  rw [e, lI_neg, jx_floorDiv (by omega) hb hb2, bnd_some, lI_neg]
theorem pm_up {a b : Int} {σ : Mm} (ha : a.natAbs < 4000000000000000000) (hb : 0 < b) (hb2 : b < 4000000000000000000) : f_X12_up YF (lI a) (lI b) σ = some (lI (-((-a) / b)), σ) := by
  have nz : ¬ lI b = 0 := by rw [L0, lI_eq (by omega) (by omega) (by omega) (by omega)]; omega
  unfold f_X12_up
  by_cases c : a < 0
  · rw [if_pos (by rw [L0, lI_lt (by omega) (by omega) (by omega) (by omega)]; exact c), if_neg nz, lI_neg, lI_div (by omega) (by omega) (by omega) (by omega), lI_neg, Int.tdiv_eq_ediv_of_nonneg (by omega)]
  · rw [if_neg (by rw [L0, lI_lt (by omega) (by omega) (by omega) (by omega)]; exact c), if_neg nz, lI_add, L1, lI_sub, lI_div (by omega) (by omega) (by omega) (by omega), Int.tdiv_eq_ediv_of_nonneg (by omega), ceil_eq a b hb]
theorem pm_down {a b : Int} {σ : Mm} (ha : a.natAbs < 4000000000000000000) (hb : 0 < b) (hb2 : b < 4000000000000000000) : f_X12_down YF (lI a) (lI b) σ = some (lI (a / b), σ) := by
  have nz : ¬ lI b = 0 := by rw [L0, lI_eq (by omega) (by omega) (by omega) (by omega)]; omega
  unfold f_X12_down
  by_cases c : a < 0
  · rw [if_pos (by rw [L0, lI_lt (by omega) (by omega) (by omega) (by omega)]; exact c), if_neg nz, lI_neg, lI_add, L1, lI_sub, lI_div (by omega) (by omega) (by omega) (by omega), lI_neg, Int.tdiv_eq_ediv_of_nonneg (by omega), ceil_eq (-a) b hb]
    simp
  · rw [if_neg (by rw [L0, lI_lt (by omega) (by omega) (by omega) (by omega)]; exact c), if_neg nz, lI_div (by omega) (by omega) (by omega) (by omega), Int.tdiv_eq_ediv_of_nonneg (by omega)]
/-- the size of any long -/
theorem pm_sizeE (e : Int64) (σ : Mm) : f_X12_size YF e σ = some (if 0 < e then e else -e, σ) := by
  unfold f_X12_size
  by_cases c : 0 < e
  · rw [if_pos c, if_pos (by rw [Int64.le_iff_toInt_le]; rw [Int64.lt_iff_toInt_lt] at c; omega)]
  · rw [if_neg c]
    by_cases c2 : 0 ≤ e
    · have : e = 0 := by
        apply Int64.toInt_inj.mp
        rw [Int64.le_iff_toInt_le] at c2
        rw [Int64.lt_iff_toInt_lt] at c
        omega
      subst this
      rfl
    · rw [if_neg c2]
