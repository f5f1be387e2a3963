/-! long literals -/
theorem L0 : (0 : Int64) = lI 0 := rfl
theorem L1 : (1 : Int64) = lI 1 := rfl
theorem L2 : (2 : Int64) = lI 2 := rfl
theorem L3 : (3 : Int64) = lI 3 := rfl
theorem L4 : (4 : Int64) = lI 4 := rfl
theorem L1000 : (1000 : Int64) = lI 1000 := rfl
theorem L1000000 : (1000000 : Int64) = lI 1000000 := rfl
theorem L100000000 : (100000000 : Int64) = lI 100000000 := rfl
theorem L2000000000000 : (2000000000000 : Int64) = lI 2000000000000 := rfl
/-! bounds -/
theorem mul_b {a b : Int} {A B : Nat} (h : a.natAbs ≤ A) (h2 : b.natAbs ≤ B) : (a * b).natAbs ≤ A * B := by
  rw [Int.natAbs_mul]; exact Nat.mul_le_mul h h2
theorem slq_b {g : Gi} {s md : Nat} (hD : MD g s md) (b : Int64) : ∀ k, k ≤ ix (g 607 s) → ∃ z : Int, slq g s b k = lI z ∧ z.natAbs ≤ 50000000 * k := by
  obtain ⟨-, -, -, -, -, -, ⟨c, hc, e607, -, hj⟩, -⟩ := hD
  rw [e607, ix_nI (by omega)]
  intro k
  induction k with
  | zero => intro _; exact ⟨0, rfl, by omega⟩
  | succ k ih =>
    intro hk
    obtain ⟨z, e, hz⟩ := ih (by omega)
    rw [slq_s, e]
    obtain ⟨-, -, -, r⟩ := hj k (by omega)
    by_cases h : 1000000 * Int32.toInt64 (g 608 (3 * s + k)) ≤ b
    · rw [if_pos h, lI_i, L1000, lI_mul, lI_add]
      exact ⟨_, rfl, by unfold rng at r; omega⟩
    · rw [if_neg h, L0, lI_add]
      exact ⟨_, rfl, by omega⟩
theorem lnq_b {g : Gi} {s md n : Nat} (hD : MD g s md) (hn : n ≤ 10001) (b : Int64) : ∃ z : Int, lnq g s n b = lI z ∧ -3000000000000 ≤ z ∧ z ≤ 3000000000000 := by
  obtain ⟨z, e, hz⟩ := slq_b hD b (ix (g 607 s)) (Nat.le_refl _)
  obtain ⟨-, -, -, r1, -, r2, ⟨c, hc, e607, -, hj⟩, -⟩ := hD
  rw [e607, ix_nI (by omega)] at hz
  have hm := mul_b (a := n) (b := (g 606 s).toInt) (A := 10001) (B := 100000) (by omega) (by unfold rng at r2; omega)
  unfold lnq
  rw [e, lI_i, lI_nI (by omega), lI_i, L1000, lI_mul, lI_mul, lI_add, lI_add]
  exact ⟨_, rfl, by unfold rng at r1; omega, by unfold rng at r1; omega⟩
theorem bgq_b {g : Gi} {s md T : Nat} (hD : MD g s md) (hT : TQ g s T) : ∀ n, n < T → 0 ≤ (bgq g s n).toInt ∧ (bgq g s n).toInt ≤ 2000000000000 ∧ (bgq g s n).toInt ≤ (bgq g s (n + 1)).toInt := by
  obtain ⟨t1, t2, t3, t4⟩ := hT
  have step : ∀ n, n < T → 0 ≤ (bgq g s n).toInt → (bgq g s n).toInt ≤ (bgq g s (n + 1)).toInt := by
    intro n hn h0
    obtain ⟨z, e, h1, h2⟩ := lnq_b hD (n := n) (by omega) (bgq g s n)
    have h3 := t3 n hn
    rw [bgq_s, e]
    generalize bgq g s n = x at h0 h3 ⊢
    rw [lI_of x]
    generalize x.toInt = y at h0 h3 ⊢
    by_cases h : lI z < 1000000
    · rw [if_pos h, L1000000, lI_add, lI_toInt (by omega) (by omega), lI_toInt (by omega) (by omega)]; omega
    · rw [L1000000, lI_lt (by omega) (by omega) (by omega) (by omega)] at h
      rw [L1000000, if_neg (by rw [lI_lt (by omega) (by omega) (by omega) (by omega)]; exact h), lI_add, lI_toInt (by omega) (by omega), lI_toInt (by omega) (by omega)]; omega
  have nn : ∀ n, n < T → 0 ≤ (bgq g s n).toInt := by
    intro n
    induction n with
    | zero =>
      intro _
      obtain ⟨-, -, -, -, r, -⟩ := hD
      unfold rng at r
      show 0 ≤ (1000000 * Int32.toInt64 (g 605 s)).toInt
      rw [lI_i, L1000000, lI_mul, lI_toInt (by omega) (by omega)]
      omega
    | succ n ih => intro h; have := step n (by omega) (ih (by omega)); have := ih (by omega); omega
  exact fun n hn => ⟨nn n hn, t3 n hn, step n hn (nn n hn)⟩
theorem bgq_m {g : Gi} {s md T : Nat} (hD : MD g s md) (hT : TQ g s T) {m n : Nat} (h : m ≤ n) (hn : n < T) : (bgq g s m).toInt ≤ (bgq g s n).toInt := by
  induction n with
  | zero => have : m = 0 := by omega
            subst this; omega
  | succ n ih =>
    by_cases e : m = n + 1
    · subst e; omega
    · have h1 := ih (by omega) (by omega)
      have h2 := (bgq_b hD hT n (by omega)).2.2
      omega
theorem ltq_b {g : Gi} {s md n : Nat} (hD : MD g s md) : ∀ k, k ≤ ix (g 610 s) → ∃ z : Int, ltq g s n k = lI z ∧ z.natAbs ≤ 50000000 * k := by
  obtain ⟨-, -, -, -, -, -, -, c, hc, e610, -, hj⟩ := hD
  rw [e610, ix_nI (by omega)]
  intro k
  induction k with
  | zero => intro _; exact ⟨0, rfl, by omega⟩
  | succ k ih =>
    intro hk
    obtain ⟨z, e, hz⟩ := ih (by omega)
    obtain ⟨-, r1, hq⟩ := hj k (by omega)
    obtain ⟨cy, hcy, ecy⟩ := i_in (n := 1000) (by have := r1.1; omega) r1.2 (by decide)
    have h4 : 4 ≤ cy := by have := r1.1; rw [ecy, nI_toInt (by omega)] at this; omega
    have r := (hq _ (q_lt (n := n) (c := cy) (by omega))).2
    show ∃ z : Int, ltq g s n k + 1000 * Int32.toInt64 (g 612 (4 * (2 * s + k) + 4 * (n % ix (g 611 (2 * s + k))) / ix (g 611 (2 * s + k)))) = lI z ∧ z.natAbs ≤ 50000000 * (k + 1)
    rw [e, ecy, ix_nI (by omega), lI_i, L1000, lI_mul, lI_add]
    exact ⟨_, rfl, by unfold rng at r; omega⟩
theorem cmq_b {g : Gi} {s md T : Nat} (hD : MD g s md) (hT : TQ g s T) {n : Nat} (hn : n < T) : (bgq g s n).toInt - 100000000 ≤ (cmq g s n).toInt ∧ (cmq g s n).toInt ≤ (bgq g s n).toInt + 100000000 := by
  obtain ⟨h1, h2, -⟩ := bgq_b hD hT n hn
  obtain ⟨z, e, hz⟩ := ltq_b (n := n) hD (ix (g 610 s)) (Nat.le_refl _)
  obtain ⟨-, -, -, -, -, -, -, c, hc, e610, -, hj⟩ := hD
  rw [e610, ix_nI (by omega)] at hz
  unfold cmq
  rw [e]
  generalize bgq g s n = x at h1 h2 ⊢
  rw [lI_of x]
  generalize x.toInt = y at h1 h2 ⊢
  rw [lI_add, lI_toInt (by omega) (by omega), lI_toInt (by omega) (by omega)]
  omega
/-! the nearest -/
/-- how far C n lies from z -/
def dz (C : Nat → Int) (z : Int) (n : Nat) : Int := if C n ≤ z then z - C n else C n - z
theorem dz_0 (C : Nat → Int) (z : Int) (n : Nat) : 0 ≤ dz C z n := by unfold dz; split <;> omega
def Near (D : Nat → Int) (T b : Nat) : Prop := b < T ∧ (∀ n, n < T → D b ≤ D n) ∧ ∀ n, n < b → D b < D n
theorem near_u {D : Nat → Int} {T b c : Nat} (h : Near D T b) (h2 : Near D T c) : b = c := by
  rcases Nat.lt_trichotomy b c with q | q | q
  · have := h2.2.2 b q; have := h.2.1 c h2.1; omega
  · exact q
  · have := h.2.2 c q; have := h2.2.1 b h.1; omega
def nrq (D : Nat → Int) : Nat → Nat
  | 0 => 0
  | n + 1 => if D n < D (nrq D n) then n else nrq D n
theorem nrq_1 (D : Nat → Int) : nrq D 1 = 0 := by simp [nrq]
theorem near_s {D : Nat → Int} {n b : Nat} (h : Near D n b) : Near D (n + 1) (if D n < D b then n else b) := by
  obtain ⟨h1, h2, h3⟩ := h
  by_cases q : D n < D b
  · rw [if_pos q]
    refine ⟨by omega, fun m hm => ?_, fun m hm => ?_⟩
    · by_cases e : m = n
      · subst e; omega
      · have := h2 m (by omega); omega
    · have := h2 m (by omega); omega
  · rw [if_neg q]
    refine ⟨by omega, fun m hm => ?_, h3⟩
    by_cases e : m = n
    · subst e; omega
    · exact h2 m (by omega)
theorem near_q (D : Nat → Int) : ∀ T, 0 < T → Near D T (nrq D T) := by
  intro T
  induction T with
  | zero => intro h; omega
  | succ T ih =>
    intro _
    by_cases h : T = 0
    · subst h
      rw [nrq_1]
      refine ⟨by omega, fun m hm => ?_, fun m hm => by omega⟩
      have : m = 0 := by omega
      subst this; omega
    · exact near_s (ih (by omega))
theorem px_firstFrom {σ : Mm} {fu this T : Nat} {x : Int64} (hT : T ≤ 10001) (h2 : Mm.gi σ this 2 = nI T) (hfu : 40 < fu) : ∃ r, r ≤ T ∧ f_X10_firstFrom YF fu this x σ = some (nI r, σ) := by
  have key := lp_ind (f := s_X10_firstFrom_11 YF fu this x) (a := fun _ _ _ _ => none) (fun d k => ∀ st lo hi, st + d = 32 → lo ≤ hi → hi ≤ T → ∃ r, r ≤ T ∧ k (nI lo) (nI hi) (nI st) σ = some (nI r, σ)) (by
    intro d k ih st lo hi hst h1 h3
    unfold s_X10_firstFrom_11
    by_cases h : 32 ≤ st
    · exact ⟨lo, by omega, by rw [if_pos (show (32 : Int32) ≤ nI st from (i_le (a := 32) (by omega) (by omega)).mpr h)]⟩
    · rw [if_neg (show ¬ (32 : Int32) ≤ nI st from i_nle (a := 32) (by omega) (by omega) (by omega))]
      by_cases h4 : hi ≤ lo
      · exact ⟨lo, by omega, by rw [if_pos ((i_le (by omega) (by omega)).mpr h4)]⟩
      · rw [if_neg (i_nle (by omega) (by omega) (by omega)), lt_e, nI_add, i_lit 2, pk_div (by omega) (by omega) (by omega), if_pos (inb_y (by omega) (by omega)), ix_nI (by omega)]
        unfold b_X10_firstFrom_56
        by_cases h5 : x ≤ Mm.gl σ (this + 1) ((lo + hi) / 2)
        · rw [if_pos h5, lt_e, i_lit 1, nI_add]
          exact ih (d - 1) (by omega) (st + 1) _ _ (by omega) (by omega) (by omega)
        · rw [if_neg h5, lt_e, lt_e, i_lit 1, nI_add, nI_add]
          exact ih (d - 1) (by omega) (st + 1) _ _ (by omega) (by omega) (by omega)) fu 32 (by omega)
  unfold f_X10_firstFrom
  rw [lt_e, h2]
  exact key 0 0 T (by omega) (by omega) (by omega)
theorem px_nearest {σ : Mm} {fu this T : Nat} {B C : Nat → Int} {z : Int} (hT0 : 0 < T) (hT : T ≤ 10001) (h2 : Mm.gi σ this 2 = nI T) (hB : ∀ n, n < T → Mm.gl σ (this + 1) n = lI (B n)) (hC : ∀ n, n < T → f_X10_comesAt YF fu this (nI n) σ = some (lI (C n), σ)) (bB : ∀ n, n < T → 0 ≤ B n ∧ B n ≤ 2000000000000) (mB : ∀ m n, m ≤ n → n < T → B m ≤ B n) (bC : ∀ n, n < T → B n - 100000000 ≤ C n ∧ C n ≤ B n + 100000000) (hz : z.natAbs ≤ 2000000000000) (hfu : 10050 < fu) : f_X10_nearest YF fu this (lI z) σ = some (nI (nrq (dz C z) T), σ) := by
  obtain ⟨r, hr, hf⟩ := px_firstFrom (x := lI z) hT h2 (show 40 < fu by omega)
  have D0 := dz_0 C z
  generalize hD : dz C z = D at D0 ⊢
  have hd : ∀ n, n < T → (if 0 < lI (C n) - lI z then lI (C n) - lI z else -(lI (C n) - lI z)) = lI (D n) ∧ D n ≤ 9000000000000 ∧ (D n = C n - z ∨ D n = z - C n) ∧ C n - z ≤ D n ∧ z - C n ≤ D n := fun n hn => by
    have b1 := bB n hn
    have b2 := bC n hn
    rw [← hD]
    unfold dz
    rw [lI_sub, lI_neg, L0]
    by_cases q : 0 < C n - z
    · rw [if_pos ((lI_lt (by omega) (by omega) (by omega) (by omega)).mpr q), if_neg (by omega)]
      exact ⟨rfl, by omega, by omega, by omega, by omega⟩
    · rw [if_neg (by rw [lI_lt (by omega) (by omega) (by omega) (by omega)]; exact q), if_pos (by omega)]
      exact ⟨by rw [show -(C n - z) = z - C n by omega], by omega, by omega, by omega, by omega⟩
  have up := lp_ind (f := s_X10_nearest_81 YF fu this (lI z)) (a := fun _ _ _ _ => none) (fun d k => ∀ n best gap, n + d = T → ((n = 0 ∧ best = 0 ∧ gap = 9223372036854775807) ∨ (0 < n ∧ gap = D best ∧ Near D n best)) → k (nI best) (lI gap) (nI n) σ = some (nI (nrq D T), σ)) (by
    intro d k ih n best gap hn hU
    unfold s_X10_nearest_81
    rw [h2]
    by_cases h : T ≤ n
    · have : n = T := by omega
      subst this
      rcases hU with ⟨q, -⟩ | ⟨-, -, q⟩
      · omega
      · rw [if_pos ((i_le (by omega) (by omega)).mpr h), near_u q (near_q D n (by omega))]
    · have b1 := bB n (by omega)
      have b2 := bC n (by omega)
      obtain ⟨e1, e2, e3, e4, e5⟩ := hd n (by omega)
      have hg : 0 ≤ gap ∧ gap ≤ 9223372036854775807 := by
        rcases hU with ⟨-, -, q⟩ | ⟨-, q, q2⟩
        · omega
        · have := D0 best; have := (hd best (by have := q2.1; omega)).2.1; omega
      rw [if_neg (i_nle (by omega) (by omega) (by omega)), if_pos (inb_y (by omega) (by omega)), ix_nI (by omega), hB n (by omega), lI_sub, L100000000, lI_sub]
      by_cases h3 : gap < B n - z - 100000000
      · rw [if_pos ((lI_lt (by omega) (by omega) (by omega) (by omega)).mpr h3)]
        rcases hU with ⟨-, -, q⟩ | ⟨q0, q, q1, q2, q3⟩
        · omega
        · have hN : Near D T best := ⟨by omega, fun m hm => by
            by_cases e : m < n
            · exact q2 m e
            · have := mB n m (by omega) hm
              have := bC m hm
              have := (hd m hm).2.2.2.1
              omega, q3⟩
          rw [near_u hN (near_q D T (by omega))]
      · rw [if_neg (by rw [lI_lt (by omega) (by omega) (by omega) (by omega)]; exact h3), hC n (by omega), bnd_some, e1, lt_e]
        unfold b_X10_nearest_138
        have hDn := D0 n
        by_cases h4 : gap ≤ D n
        · rw [if_pos ((lI_le (by omega) (by omega) (by omega) (by omega)).mpr h4), lt_e, i_lit 1, nI_add]
          refine ih (d - 1) (by omega) (n + 1) best gap (by omega) (Or.inr ?_)
          rcases hU with ⟨-, -, q⟩ | ⟨q0, q, q1⟩
          · omega
          · have hs := near_s q1
            rw [if_neg (by omega)] at hs
            exact ⟨by omega, q, hs⟩
        · rw [if_neg (by rw [lI_le (by omega) (by omega) (by omega) (by omega)]; exact h4), lt_e, i_lit 1, nI_add]
          refine ih (d - 1) (by omega) (n + 1) n (D n) (by omega) (Or.inr ⟨by omega, rfl, ?_⟩)
          rcases hU with ⟨q0, -, -⟩ | ⟨q0, q, q1⟩
          · subst q0
            refine ⟨by omega, fun m hm => ?_, fun m hm => by omega⟩
            have : m = 0 := by omega
            subst this; omega
          · have hs := near_s q1
            rw [if_pos (by omega)] at hs
            exact hs) 
  have up2 : ∀ best gap, ((r = 0 ∧ best = 0 ∧ gap = 9223372036854775807) ∨ (0 < r ∧ gap = D best ∧ Near D r best)) → b_X10_nearest_78 YF fu this (lI z) (nI r) (nI best) (lI gap) σ = some (nI (nrq D T), σ) := fun best gap h => up fu (T - r) (by omega) r best gap (by omega) h
  have down := lp_ind (f := s_X10_nearest_19 YF fu this (lI z)) (a := fun _ _ _ _ _ => none) (fun d k => ∀ best gap, d ≤ r → ((d = r ∧ best = 0 ∧ gap = 9223372036854775807) ∨ (d < r ∧ gap = D best ∧ d ≤ best ∧ best < r ∧ (∀ m, d ≤ m → m < r → D best ≤ D m) ∧ ∀ m, d ≤ m → m < best → D best < D m)) → k (nI r) (nI best) (lI gap) (nI d + (-1)) σ = some (nI (nrq D T), σ)) (by
    intro d k ih best gap hdr hU
    unfold s_X10_nearest_19
    cases d with
    | zero =>
      rw [if_pos (by decide)]
      refine up2 best gap ?_
      rcases hU with ⟨q0, q1, q2⟩ | ⟨q0, q1, q2, q3, q4, q5⟩
      · exact Or.inl ⟨q0.symm, q1, q2⟩
      · exact Or.inr ⟨q0, q1, q3, fun m hm => q4 m (by omega) hm, fun m hm => q5 m (by omega) hm⟩
    | succ n =>
      have b1 := bB n (by omega)
      have b2 := bC n (by omega)
      obtain ⟨e1, e2, e3, e4, e5⟩ := hd n (by omega)
      have hg : 0 ≤ gap ∧ gap ≤ 9223372036854775807 := by
        rcases hU with ⟨-, -, q⟩ | ⟨-, q, -, q2, -⟩
        · omega
        · have := D0 best; have := (hd best (by omega)).2.1; omega
      rw [pk_m1, if_neg (nI_pos (by omega)), if_pos (inb_y (by omega) (by omega)), ix_nI (by omega), hB n (by omega), lI_sub, L100000000, lI_sub]
      by_cases h3 : gap < z - B n - 100000000
      · rw [if_pos ((lI_lt (by omega) (by omega) (by omega) (by omega)).mpr h3)]
        rcases hU with ⟨-, -, q⟩ | ⟨q0, q1, q2, q3, q4, q5⟩
        · omega
        · have far : ∀ m, m ≤ n → D best < D m := fun m hm => by
            have := mB m n hm (by omega)
            have := bC m (by omega)
            have := (hd m (by omega)).2.2.2.2
            omega
          refine up2 best gap (Or.inr ⟨by omega, q1, q3, fun m hm => ?_, fun m hm => ?_⟩)
          · by_cases e : n + 1 ≤ m
            · exact q4 m e hm
            · have := far m (by omega); omega
          · by_cases e : n + 1 ≤ m
            · exact q5 m e hm
            · exact far m (by omega)
      · rw [if_neg (by rw [lI_lt (by omega) (by omega) (by omega) (by omega)]; exact h3), hC n (by omega), bnd_some, e1, lt_e]
        unfold b_X10_nearest_72
        have hDn := D0 n
        by_cases h4 : gap < D n
        · rw [if_pos ((lI_lt (by omega) (by omega) (by omega) (by omega)).mpr h4), lt_e]
          refine ih n (by omega) best gap (by omega) (Or.inr ?_)
          rcases hU with ⟨-, -, q⟩ | ⟨q0, q1, q2, q3, q4, q5⟩
          · omega
          · refine ⟨by omega, q1, by omega, q3, fun m hm hm2 => ?_, fun m hm hm2 => ?_⟩
            · by_cases e : m = n
              · subst e; omega
              · exact q4 m (by omega) hm2
            · by_cases e : m = n
              · subst e; omega
              · exact q5 m (by omega) hm2
        · rw [if_neg (by rw [lI_lt (by omega) (by omega) (by omega) (by omega)]; exact h4), lt_e]
          refine ih n (by omega) n (D n) (by omega) (Or.inr ⟨by omega, rfl, by omega, by omega, fun m hm hm2 => ?_, fun m hm hm2 => by omega⟩)
          by_cases e : m = n
          · subst e; omega
          · rcases hU with ⟨q0, -, -⟩ | ⟨q0, q1, q2, q3, q4, q5⟩
            · omega
            · have := q4 m (by omega) hm2; omega)
  unfold f_X10_nearest
  rw [hf, bnd_some, lt_e, Int32.sub_eq_add_neg]
  exact down fu r (by omega) 0 9223372036854775807 (by omega) (Or.inl ⟨rfl, rfl, rfl⟩)
