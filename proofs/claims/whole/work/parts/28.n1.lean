/-! loops; long numbers -/
theorem lp_ind {α : Type} {f : α → α} {a : α} (R : Nat → α → Prop) (h : ∀ d k, (∀ d', d' < d → R d' k) → R d (f k)) : ∀ n d, d < n → R d (lp f a n) := by
  intro n
  induction n with
  | zero => intro d hd; omega
  | succ n ih => intro d hd; exact h d _ (fun d' h' => ih d' (by omega))
/-- a long out of a whole number -/
def lI (z : Int) : Int64 := Int64.ofInt z
theorem lI_add (a b : Int) : lI a + lI b = lI (a + b) := (Int64.ofInt_add a b).symm
theorem lI_sub (a b : Int) : lI a - lI b = lI (a - b) := (Int64.ofInt_sub a b).symm
theorem lI_mul (a b : Int) : lI a * lI b = lI (a * b) := (Int64.ofInt_mul a b).symm
theorem lI_neg (a : Int) : -lI a = lI (-a) := (Int64.ofInt_neg a).symm
theorem lI_lit (n : Nat) : (OfNat.ofNat n : Int64) = lI (n : Int) := Int64.ofInt_eq_ofNat.symm
theorem lI_toInt {a : Int} (h1 : -9223372036854775808 ≤ a) (h2 : a < 9223372036854775808) : (lI a).toInt = a := Int64.toInt_ofInt_of_le (by simpa using h1) (by simpa using h2)
theorem lI_of (x : Int64) : x = lI x.toInt := (Int64.ofInt_toInt x).symm
theorem lI_i (x : Int32) : Int32.toInt64 x = lI x.toInt := by
  have h : (Int32.toInt64 x).toInt = x.toInt := Int32.toInt_toInt64 x
  rw [lI_of (Int32.toInt64 x), h]
theorem lI_lt {a b : Int} (h1 : -9223372036854775808 ≤ a) (h2 : a < 9223372036854775808) (h3 : -9223372036854775808 ≤ b) (h4 : b < 9223372036854775808) : lI a < lI b ↔ a < b := by
  rw [Int64.lt_iff_toInt_lt, lI_toInt h1 h2, lI_toInt h3 h4]
theorem lI_le {a b : Int} (h1 : -9223372036854775808 ≤ a) (h2 : a < 9223372036854775808) (h3 : -9223372036854775808 ≤ b) (h4 : b < 9223372036854775808) : lI a ≤ lI b ↔ a ≤ b := by
  rw [Int64.le_iff_toInt_le, lI_toInt h1 h2, lI_toInt h3 h4]
theorem lI_eq {a b : Int} (h1 : -9223372036854775808 ≤ a) (h2 : a < 9223372036854775808) (h3 : -9223372036854775808 ≤ b) (h4 : b < 9223372036854775808) : lI a = lI b ↔ a = b :=
  ⟨fun h => by rw [← lI_toInt h1 h2, h, lI_toInt h3 h4], fun h => by rw [h]⟩
theorem lI_div {a b : Int} (h1 : -9223372036854775808 < a) (h2 : a < 9223372036854775808) (h3 : -9223372036854775808 ≤ b) (h4 : b < 9223372036854775808) : lI a / lI b = lI (a.tdiv b) := by
  have h : (lI a / lI b).toInt = a.tdiv b := by
    rw [Int64.toInt_div, lI_toInt (by omega) h2, lI_toInt h3 h4]
    refine Int.bmod_eq_of_le ?_ ?_
    · have := Int.natAbs_tdiv_le_natAbs a b
      omega
    · have := Int.natAbs_tdiv_le_natAbs a b
      omega
  rw [lI_of (lI a / lI b), h]
/-- an int out of a whole number -/
def iI (z : Int) : Int32 := Int32.ofInt z
theorem iI_add (a b : Int) : iI a + iI b = iI (a + b) := (Int32.ofInt_add a b).symm
theorem iI_sub (a b : Int) : iI a - iI b = iI (a - b) := (Int32.ofInt_sub a b).symm
theorem iI_mul (a b : Int) : iI a * iI b = iI (a * b) := (Int32.ofInt_mul a b).symm
theorem iI_neg (a : Int) : -iI a = iI (-a) := (Int32.ofInt_neg a).symm
theorem iI_lit (n : Nat) : (OfNat.ofNat n : Int32) = iI (n : Int) := Int32.ofInt_eq_ofNat.symm
theorem iI_toInt {a : Int} (h1 : -2147483648 ≤ a) (h2 : a < 2147483648) : (iI a).toInt = a := Int32.toInt_ofInt_of_le (by simpa using h1) (by simpa using h2)
theorem iI_of (x : Int32) : x = iI x.toInt := (Int32.ofInt_toInt x).symm
theorem iI_n (n : Nat) : nI n = iI (n : Int) := Int32.ofInt_eq_ofNat.symm
theorem iI_lt {a b : Int} (h1 : -2147483648 ≤ a) (h2 : a < 2147483648) (h3 : -2147483648 ≤ b) (h4 : b < 2147483648) : iI a < iI b ↔ a < b := by
  rw [Int32.lt_iff_toInt_lt, iI_toInt h1 h2, iI_toInt h3 h4]
theorem iI_le {a b : Int} (h1 : -2147483648 ≤ a) (h2 : a < 2147483648) (h3 : -2147483648 ≤ b) (h4 : b < 2147483648) : iI a ≤ iI b ↔ a ≤ b := by
  rw [Int32.le_iff_toInt_le, iI_toInt h1 h2, iI_toInt h3 h4]
theorem iI_eq {a b : Int} (h1 : -2147483648 ≤ a) (h2 : a < 2147483648) (h3 : -2147483648 ≤ b) (h4 : b < 2147483648) : iI a = iI b ↔ a = b :=
  ⟨fun h => by rw [← iI_toInt h1 h2, h, iI_toInt h3 h4], fun h => by rw [h]⟩
theorem lI_iI {a : Int} (h1 : -2147483648 ≤ a) (h2 : a < 2147483648) : Int32.toInt64 (iI a) = lI a := by rw [lI_i, iI_toInt h1 h2]
theorem lI_nI {n : Nat} (h : n < 2 ^ 31) : Int32.toInt64 (nI n) = lI n := by rw [lI_i, nI_toInt h]
theorem i_nle {a b : Nat} (ha : a < 2 ^ 31) (hb : b < 2 ^ 31) (h : b < a) : ¬ nI a ≤ nI b := fun q => by have := (i_le ha hb).mp q; omega
theorem i_nlt {a b : Nat} (ha : a < 2 ^ 31) (hb : b < 2 ^ 31) (h : b ≤ a) : ¬ nI a < nI b := fun q => by have := (i_lt ha hb).mp q; omega
theorem inb_y {n N : Nat} (h : n < N) (hN : N < 2 ^ 31) : inb (nI n) N = true := (inb_iff (by omega)).mpr h
/-! how much later a turn comes -/
def ltq (g : Gi) (s n : Nat) : Nat → Int64
  | 0 => 0
  | k + 1 => ltq g s n k + 1000 * Int32.toInt64 (g 612 (4 * (2 * s + k) + 4 * (n % ix (g 611 (2 * s + k))) / ix (g 611 (2 * s + k))))
/-- when turn n comes -/
def cmq (g : Gi) (s n : Nat) : Int64 := bgq g s n + ltq g s n (ix (g 610 s))
theorem q_lt {n c : Nat} (h : 0 < c) : 4 * (n % c) / c < 4 := by
  rw [Nat.div_lt_iff_lt_mul h]
  have := Nat.mod_lt n h
  omega
theorem pm_later {σ : Mm} {s n md fu : Nat} (hs : s < 4) (hD : MD (Mm.gi σ) s md) (hn : n ≤ 10001) (hfu : 3 < fu) : f_X12_later YF fu 595 (nI s) (nI n) σ = some (ltq (Mm.gi σ) s n (ix (Mm.gi σ 610 s)), σ) := by
  obtain ⟨-, -, -, -, -, -, -, c, hc, e610, -, hj⟩ := hD
  have key := lp_ind (f := s_X12_later_5 YF fu 595 (nI s) (nI n)) (a := fun _ _ _ => none) (fun d k => ∀ i x, i + d = c → 1000 * x = ltq (Mm.gi σ) s n i → k x (nI i) σ = some (ltq (Mm.gi σ) s n c, σ)) (by
    intro d k ih i x hi hx
    unfold s_X12_later_5
    rw [if_pos (inb_y (by omega) (by omega)), ix_nI (by omega), e610]
    by_cases h : c ≤ i
    · have : i = c := by omega
      subst this
      rw [if_pos ((i_le (by omega) (by omega)).mpr h), hx]
    · obtain ⟨-, r1, hq⟩ := hj i (by omega)
      obtain ⟨cy, hcy, ecy⟩ := i_in (n := 1000) (by have := r1.1; omega) r1.2 (by decide)
      have h4 : 4 ≤ cy := by have := r1.1; rw [ecy, nI_toInt (by omega)] at this; omega
      have hm : n % cy < cy := Nat.mod_lt n (by omega)
      have hq4 := q_lt (n := n) (c := cy) (by omega)
      rw [if_neg (i_nle (by omega) (by omega) (by omega)), i_lit 2, i_mul, nI_add, if_pos (inb_y (by omega) (by omega)), lt_e, ix_nI (by omega), ecy, if_neg (nI_ne0 (by omega) (by omega)), if_neg (nI_ne0 (by omega) (by omega)), pk_rem (by omega) (by omega) (by omega), i_lit 4, i_mul, i_mul, pk_div (by omega) (by omega) (by omega), nI_add, if_pos (inb_y (by omega) (by omega)), lt_e, lt_e, i_lit 1, nI_add, ix_nI (by omega)]
      refine ih (d - 1) (by omega) (i + 1) _ (by omega) ?_
      rw [Int64.mul_add, hx]
      simp only [ltq]
      rw [ecy, ix_nI (by omega)]) fu c (by omega)
  unfold f_X12_later b_X12_later_5
  rw [e610, ix_nI (by omega)]
  exact key 0 0 (by omega) rfl
theorem px_lateOf {σ : Mm} {s n md fu : Nat} (hs : s < 4) (hD : MD (Mm.gi σ) s md) (hn : n ≤ 10001) (hfu : 3 < fu) : f_X4_lateOf YF fu md (nI n) σ = some (ltq (Mm.gi σ) s n (ix (Mm.gi σ 610 s)), σ) := by
  obtain ⟨-, -, -, -, -, -, -, c, hc, e610, e9, hj⟩ := hD
  have key := lp_ind (f := s_X4_lateOf_5 YF fu md (nI n)) (a := fun _ _ _ => none) (fun d k => ∀ i, i + d = c → k (ltq (Mm.gi σ) s n i) (nI i) σ = some (ltq (Mm.gi σ) s n c, σ)) (by
    intro d k ih i hi
    unfold s_X4_lateOf_5
    rw [e9]
    by_cases h : c ≤ i
    · have : i = c := by omega
      subst this
      rw [if_pos ((i_le (by omega) (by omega)).mpr h)]
    · obtain ⟨e3, r1, hq⟩ := hj i (by omega)
      obtain ⟨cy, hcy, ecy⟩ := i_in (n := 1000) (by have := r1.1; omega) r1.2 (by decide)
      have h4 : 4 ≤ cy := by have := r1.1; rw [ecy, nI_toInt (by omega)] at this; omega
      have hm : n % cy < cy := Nat.mod_lt n (by omega)
      have hq4 := q_lt (n := n) (c := cy) (by omega)
      rw [if_neg (i_nle (by omega) (by omega) (by omega)), if_pos (inb_y (by omega) (by omega)), lt_e, ix_nI (by omega), e3, ecy, if_neg (nI_nle (by omega) (by omega)), if_neg (nI_ne0 (by omega) (by omega)), if_neg (nI_ne0 (by omega) (by omega)), pk_rem (by omega) (by omega) (by omega), i_lit 4, i_mul, i_mul, pk_div (by omega) (by omega) (by omega), lt_e, nI_add, if_pos (inb_y (by omega) (by omega)), lt_e, ix_nI (by omega)]
      unfold b_X4_lateOf_59
      rw [lt_e, i_lit 1, nI_add]
      have e : ltq (Mm.gi σ) s n i + 1000 * Int32.toInt64 (Mm.gi σ (md + 4) (i * 4 + 4 * (n % cy) / cy)) = ltq (Mm.gi σ) s n (i + 1) := by
        simp only [ltq]
        rw [ecy, ix_nI (by omega), Nat.mul_comm i 4, (hq _ hq4).1]
      rw [e]
      exact ih (d - 1) (by omega) (i + 1) (by omega)) fu c (by omega)
  unfold f_X4_lateOf b_X4_lateOf_5
  rw [e610, ix_nI (by omega)]
  exact key 0 (by omega)
