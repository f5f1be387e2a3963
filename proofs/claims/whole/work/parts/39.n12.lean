/-! the greatest common divisor -/
theorem lI_lN (n : Nat) : lI (n : Int) = lN n := Int64.ofInt_eq_ofNat
def es (x y : Nat) : Nat := if h : y = 0 then 0 else es y (x % y) + 1
termination_by y
decreasing_by exact Nat.mod_lt _ (Nat.pos_of_ne_zero h)
theorem es_0 (x : Nat) : es x 0 = 0 := by rw [es]; simp
theorem es_s {x y : Nat} (h : y ≠ 0) : es x y = es y (x % y) + 1 := by rw [es]; simp [h]
theorem es_b : ∀ (m x y : Nat), y < 2 ^ m → es x y ≤ 2 * m := by
  intro m
  induction m with
  | zero => intro x y h; have : y = 0 := by omega
            subst this; rw [es_0]; omega
  | succ m ih =>
    intro x y h
    by_cases h0 : y = 0
    · subst h0; rw [es_0]; omega
    · rw [es_s h0]
      by_cases h1 : x % y = 0
      · rw [h1, es_0]; omega
      · rw [es_s h1]
        have hr : x % y < y := Nat.mod_lt _ (by omega)
        have h2 : y % (x % y) < 2 ^ m := by
          have e := Nat.mod_add_div y (x % y)
          have l := Nat.mod_lt y (show 0 < x % y by omega)
          have d : 1 ≤ y / (x % y) := (Nat.one_le_div_iff (by omega)).mpr (by omega)
          have d2 := Nat.mul_le_mul_left (x % y) d
          rw [Nat.pow_succ] at h
          omega
        have := ih (x % y) (y % (x % y)) h2
        omega
theorem px_cd {x y fu : Nat} {a0 a2 : Int64} {σ : Mm} (hx : x < 2 ^ 63) (hy : y < 2 ^ 63) (hg : 0 < Nat.gcd x y) (hfu : 300 < fu) : b_X1_commonDivisor_15 YF fu a0 a2 fu (lN x) (lN y) 0 σ = some (lN (Nat.gcd x y), σ) := by
  have hb := es_b 63 x y hy
  exact lp_ind (f := s_X1_commonDivisor_15 YF fu a0 a2) (a := fun _ _ _ _ => none) (fun d k => ∀ x y st, es x y = d → st + d ≤ 190 → 0 < Nat.gcd x y → x < 2 ^ 63 → y < 2 ^ 63 → k (lN x) (lN y) (nI st) σ = some (lN (Nat.gcd x y), σ)) (by
    intro d k ih x y st hd hst hg hx hy
    unfold s_X1_commonDivisor_15
    rw [if_neg (show ¬ (200 : Int32) ≤ nI st from i_nle (a := 200) (by omega) (by omega) (by omega))]
    by_cases h : y = 0
    · subst h
      rw [Nat.gcd_zero_right] at hg
      rw [if_pos (show lN 0 = 0 from rfl), Nat.gcd_zero_right]
      by_cases c : 1 < x
      · rw [if_pos (show (1 : Int64) < lN x from (pk_lLT (a := 1) (by omega) hx).mpr c)]
      · rw [if_neg (show ¬ (1 : Int64) < lN x from fun q => c ((pk_lLT (a := 1) (by omega) hx).mp q)), show x = 1 by omega]
        rfl
    · have hne : ¬ lN y = 0 := fun q => h ((pk_lEQ (b := 0) hy (by omega)).mp q)
      have hmod : x % y < y := Nat.mod_lt _ (by omega)
      rw [es_s h] at hd
      rw [if_neg hne, if_neg hne, lt_e, lt_e, pk_lRem hx (by omega) hy, i_lit 1, nI_add, Nat.gcd_comm x y, Nat.gcd_rec y x, Nat.gcd_comm (x % y) y]
      refine ih (d - 1) (by omega) y (x % y) (st + 1) (by omega) (by omega) ?_ hy (by omega)
      rw [Nat.gcd_comm x y, Nat.gcd_rec y x, Nat.gcd_comm] at hg
      exact hg) fu (es x y) (by omega) x y 0 rfl (by omega) hg hx hy
theorem pm_cd {x y fu : Nat} {a0 a2 : Int64} {σ : Mm} (hx : x < 2 ^ 63) (hy : y < 2 ^ 63) (hfu : 300 < fu) : b_X12_divisor_12 YF fu a0 a2 fu (lN x) (lN y) σ = some (lN (Nat.gcd x y), σ) := by
  have hb := es_b 63 x y hy
  exact lp_ind (f := s_X12_divisor_12 YF fu a0 a2) (a := fun _ _ _ => none) (fun d k => ∀ x y, es x y = d → x < 2 ^ 63 → y < 2 ^ 63 → k (lN x) (lN y) σ = some (lN (Nat.gcd x y), σ)) (by
    intro d k ih x y hd hx hy
    unfold s_X12_divisor_12
    by_cases h : y = 0
    · subst h
      rw [if_pos (show lN 0 = 0 from rfl), Nat.gcd_zero_right]
    · have hne : ¬ lN y = 0 := fun q => h ((pk_lEQ (b := 0) hy (by omega)).mp q)
      have hmod : x % y < y := Nat.mod_lt _ (by omega)
      rw [es_s h] at hd
      rw [if_neg hne, if_neg hne, lt_e, pk_lRem hx (by omega) hy, Nat.gcd_comm x y, Nat.gcd_rec y x, Nat.gcd_comm (x % y) y]
      exact ih (d - 1) (by omega) y (x % y) (by omega) hy (by omega)) fu (es x y) (by omega) x y rfl hx hy
theorem px_commonDivisor {a b : Int} {fu : Nat} {σ : Mm} (ha : a.natAbs < 2000000000000000000) (hb : b.natAbs < 2000000000000000000) (hb0 : b ≠ 0) (hfu : 300 < fu) : f_X1_commonDivisor YF fu (lI a) (lI b) σ = some (lN (Nat.gcd a.natAbs b.natAbs), σ) := by
  have hab : ∀ c : Int, c.natAbs < 2000000000000000000 → (if 0 < lI c then lI c else -lI c) = lN c.natAbs := fun c hc => by
    rw [L0, lI_neg, ← lI_lN]
    by_cases q : 0 < c
    · rw [if_pos ((lI_lt (by omega) (by omega) (by omega) (by omega)).mpr q)]; congr 1; omega
    · rw [if_neg (by rw [lI_lt (by omega) (by omega) (by omega) (by omega)]; exact q)]; congr 1; omega
  unfold f_X1_commonDivisor
  rw [lt_e, lt_e, hab a ha, hab b hb]
  exact px_cd (by omega) (by omega) (Nat.gcd_pos_of_pos_right _ (by omega)) hfu
theorem pm_divisor {a b : Int} {fu : Nat} {σ : Mm} (ha : a.natAbs < 2000000000000000000) (hb : b.natAbs < 2000000000000000000) (hfu : 300 < fu) : f_X12_divisor YF fu (lI a) (lI b) σ = some (lN (Nat.gcd a.natAbs b.natAbs), σ) := by
  unfold f_X12_divisor
  rw [pm_size (by omega), bnd_some, pm_size (by omega), bnd_some, lI_lN, lI_lN]
  exact pm_cd (by omega) (by omega) hfu
/-! sums -/
theorem sumI_b {f : Nat → Int} {B : Nat} : ∀ {n : Nat}, (∀ i, i < n → (f i).natAbs ≤ B) → (sumI f n).natAbs ≤ n * B := by
  intro n
  induction n with
  | zero => intro _; simp [sumI]
  | succ n ih =>
    intro h
    have h1 := ih (fun i hi => h i (by omega))
    have h2 := h n (by omega)
    simp only [sumI]
    rw [Nat.add_mul]
    omega
def sqd (c : Nat → Int) (z : Int) : Nat → Int
  | 0 => 0
  | k + 1 => sqd c z k + (z - c k) * (z - c k)
theorem sq_0 (a : Int) : 0 ≤ a * a := by
  rcases Int.le_total 0 a with h | h
  · exact Int.mul_nonneg h h
  · have := Int.mul_nonneg (a := -a) (b := -a) (by omega) (by omega)
    rw [Int.neg_mul_neg] at this
    exact this
theorem sqd_e (c : Nat → Int) (z : Int) : ∀ k : Nat, sqd c z k = (k : Int) * (z * z) - 2 * (z * sumI c k) + sumI (fun i => c i * c i) k := by
  intro k
  induction k with
  | zero => simp [sqd, sumI]
  | succ k ih =>
    simp only [sqd, sumI, ih]
    push_cast
    grind
theorem sqd_0 (c : Nat → Int) (z : Int) : ∀ k : Nat, 0 ≤ sqd c z k := by
  intro k
  induction k with
  | zero => simp [sqd]
  | succ k ih => simp only [sqd]; have := sq_0 (z - c k); omega
theorem var_s (c : Nat → Int) (k : Nat) : ((k + 1 : Nat) : Int) * sumI (fun i => c i * c i) (k + 1) - sumI c (k + 1) * sumI c (k + 1) = (k : Int) * sumI (fun i => c i * c i) k - sumI c k * sumI c k + sqd c (c k) k := by
  rw [sqd_e]
  simp only [sumI]
  push_cast
  grind
theorem var_p (c : Nat → Int) (h : c 0 ≠ c 1) : ∀ k : Nat, 0 < ((k + 2 : Nat) : Int) * sumI (fun i => c i * c i) (k + 2) - sumI c (k + 2) * sumI c (k + 2) := by
  intro k
  induction k with
  | zero =>
    rw [show 0 + 2 = 1 + 1 from rfl, var_s]
    simp only [sqd, sumI]
    have h1 := sq_0 (c 1 - c 0)
    have h2 : (c 1 - c 0) * (c 1 - c 0) ≠ 0 := fun e => by
      rcases Int.mul_eq_zero.mp e with q | q <;> omega
    generalize c 0 = a at *
    generalize c 1 = b at *
    have e : ((1 : Nat) : Int) * (0 + a * a) - (0 + a) * (0 + a) + (0 + (b - a) * (b - a)) = (b - a) * (b - a) := by push_cast; grind
    omega
  | succ k ih =>
    rw [show k + 1 + 2 = (k + 2) + 1 from rfl, var_s]
    have := sqd_0 c (c (k + 2)) (k + 2)
    omega
