/-! the middle -/
theorem iI_div {a b : Int} (h1 : -2147483648 < a) (h2 : a < 2147483648) (h3 : -2147483648 ≤ b) (h4 : b < 2147483648) : iI a / iI b = iI (a.tdiv b) := by
  have h : (iI a / iI b).toInt = a.tdiv b := by
    rw [Int32.toInt_div, iI_toInt (by omega) h2, iI_toInt h3 h4]
    refine Int.bmod_eq_of_le ?_ ?_
    · have := Int.natAbs_tdiv_le_natAbs a b
      omega
    · have := Int.natAbs_tdiv_le_natAbs a b
      omega
  rw [iI_of (iI a / iI b), h]
theorem i_nn (x : Int32) : 0 ≤ x ↔ x.toBitVec.msb = false := by
  rw [Int32.le_iff_toInt_le, BitVec.msb_eq_toInt]
  show (0 : Int) ≤ x.toBitVec.toInt ↔ _
  simp
theorem i_xor {a b : Int32} (hb : 0 < b.toInt) : (0 ≤ (a ^^^ b)) ↔ 0 ≤ a.toInt := by
  have h1 : b.toBitVec.msb = false := (i_nn b).mp (by rw [Int32.le_iff_toInt_le]; show (0 : Int) ≤ _; omega)
  have h2 : (a ^^^ b).toBitVec.msb = a.toBitVec.msb := by
    rw [Int32.toBitVec_xor, BitVec.msb_xor, h1, Bool.xor_false]
  rw [i_nn, h2, ← i_nn, Int32.le_iff_toInt_le]
  exact Iff.rfl
theorem jx_half {a : Int} {σ : Mm} (ha : a.natAbs < 1000000000) : f_J9_floorDiv_7cf53 YF (iI a) 2 σ = some (iI (a / 2), σ) := by
  have ta : (iI a).toInt = a := iI_toInt (by omega) (by omega)
  unfold f_J9_floorDiv_7cf53
  rw [if_neg (show ¬ (2 : Int32) = 0 by decide), lt_e, show (2 : Int32) = iI 2 from rfl, iI_div (by omega) (by omega) (by omega) (by omega)]
  by_cases c : 0 ≤ a
  · rw [if_pos ((i_xor (by rw [iI_toInt (by omega) (by omega)]; omega)).mpr (by rw [ta]; exact c)), Int.tdiv_eq_ediv_of_nonneg c]
  · have h2 : a.tdiv 2 = -((-a) / 2) := by
      have : a.tdiv 2 = -((-a).tdiv 2) := by rw [Int.neg_tdiv]; omega
      rw [this, Int.tdiv_eq_ediv_of_nonneg (by omega)]
    rw [if_neg (by rw [i_xor (by rw [iI_toInt (by omega) (by omega)]; omega), ta]; exact c), iI_mul, h2]
    by_cases c2 : -((-a) / 2) * 2 = a
    · rw [if_pos (by rw [c2]), show -((-a) / 2) = a / 2 by omega]
    · rw [if_neg (by rw [iI_eq (by omega) (by omega) (by omega) (by omega)]; exact c2), show (1 : Int32) = iI 1 from rfl, iI_sub, show -((-a) / 2) - 1 = a / 2 by omega]
/-- how many of the first m are x at most -/
def upq (Z : Nat → Int) (m : Nat) (x : Int) : Nat := cntq (fun q => decide (Z q ≤ x)) m
theorem cntq_mono {P Q : Nat → Bool} (h : ∀ q, P q = true → Q q = true) : ∀ m, cntq P m ≤ cntq Q m := by
  intro m
  induction m with
  | zero => exact Nat.le_refl _
  | succ m ih =>
    rw [cntq_s, cntq_s]
    by_cases c : P m = true
    · rw [if_pos c, if_pos (h m c)]; omega
    · rw [if_neg c]; omega
theorem upq_m (Z : Nat → Int) (m : Nat) {x y : Int} (h : x ≤ y) : upq Z m x ≤ upq Z m y := cntq_mono (fun q hq => by
  rw [decide_eq_true_iff] at hq ⊢
  omega) m
theorem cntq_none {P : Nat → Bool} : ∀ {m : Nat}, (∀ q, q < m → P q = false) → cntq P m = 0 := by
  intro m
  induction m with
  | zero => intro _; rfl
  | succ m ih => intro h; rw [cntq_s, ih (fun q hq => h q (by omega)), h m (by omega)]; rfl
theorem cntq_all {P : Nat → Bool} : ∀ {m : Nat}, (∀ q, q < m → P q = true) → cntq P m = m := by
  intro m
  induction m with
  | zero => intro _; rfl
  | succ m ih => intro h; rw [cntq_s, ih (fun q hq => h q (by omega)), h m (by omega)]; rfl
/-- the middle's mark -/
def Mid (Z : Nat → Int) (m : Nat) (v : Int) : Prop := upq Z m (v - 1) ≤ (m - 1) / 2 ∧ (m - 1) / 2 < upq Z m v
theorem mid_u {Z : Nat → Int} {m : Nat} {x y : Int} (h : Mid Z m x) (h2 : Mid Z m y) : x = y := by
  obtain ⟨a1, a2⟩ := h
  obtain ⟨b1, b2⟩ := h2
  rcases Int.lt_trichotomy x y with q | q | q
  · have := upq_m Z m (show x ≤ y - 1 by omega); omega
  · exact q
  · have := upq_m Z m (show y ≤ x - 1 by omega); omega
theorem upq_s (Z : Nat → Int) (m : Nat) (x : Int) : upq Z m x = cntq (fun q => decide (Z q < x)) m + cntq (fun q => decide (Z q = x)) m := by
  unfold upq
  induction m with
  | zero => rfl
  | succ m ih =>
    rw [cntq_s, cntq_s, cntq_s, ih]
    by_cases c : Z m < x
    · simp [c, show Z m ≤ x by omega, show ¬ Z m = x by omega]; omega
    · by_cases e : Z m = x
      · simp [e]; omega
      · simp [c, e, show ¬ Z m ≤ x by omega]
theorem upq_p (Z : Nat → Int) (m : Nat) (x : Int) : upq Z m (x - 1) = cntq (fun q => decide (Z q < x)) m := cntq_cg (fun q _ => decide_eq_decide.mpr (by omega))
theorem mid_iff {Z : Nat → Int} {m : Nat} {v : Int} (hv : Mid Z m v) (x : Int) : (cntq (fun q => decide (Z q < x)) m ≤ (m - 1) / 2 ∧ (m - 1) / 2 < cntq (fun q => decide (Z q < x)) m + cntq (fun q => decide (Z q = x)) m) ↔ x = v := by
  rw [← upq_s, ← upq_p]
  constructor
  · intro h; exact mid_u h hv
  · intro h; subst h; exact hv
theorem cntq_pos {P : Nat → Bool} : ∀ {m : Nat}, 0 < cntq P m → ∃ q, q < m ∧ P q = true := by
  intro m
  induction m with
  | zero => intro h; simp [cntq] at h
  | succ m ih =>
    intro h
    by_cases c : P m = true
    · exact ⟨m, by omega, c⟩
    · rw [cntq_s, if_neg c] at h
      obtain ⟨q, h1, h2⟩ := ih h
      exact ⟨q, by omega, h2⟩
theorem mid_ex {Z : Nat → Int} {m : Nat} {v : Int} (hv : Mid Z m v) : 0 < cntq (fun q => decide (Z q = v)) m := by
  have h := upq_s Z m v
  have h2 := upq_p Z m v
  obtain ⟨a, b⟩ := hv
  omega
section MI
variable {σ : Mm} {Z : Nat → Int} {m fu : Nat}
theorem px_howMany (hm : m ≤ 576) (h1 : Mm.gi σ 553 1 = nI m) (hZ : ∀ i, i < m → Mm.gi σ 554 i = iI (Z i)) (hb : ∀ i, i < m → (Z i).natAbs ≤ 1000000) {x : Int} (hx : x.natAbs ≤ 1000000) (hfu : 600 < fu) : f_X2_howManyUpTo YF fu 553 (iI x) σ = some (nI (upq Z m x), σ) := by
  exact lp_ind (f := s_X2_howManyUpTo_4 YF fu 553 (iI x)) (a := fun _ _ _ => none) (fun d K => ∀ j, j + d = m → K (nI (upq Z j x)) (nI j) σ = some (nI (upq Z m x), σ)) (by
    intro d K ih j hj
    unfold s_X2_howManyUpTo_4 b_X2_howManyUpTo_25
    rw [h1]
    by_cases h : m ≤ j
    · have : j = m := by omega
      subst this
      rw [if_pos ((i_le (by omega) (by omega)).mpr h)]
    · have hnx := ih (d - 1) (by omega) (j + 1) (by omega)
      have hbj := hb j (by omega)
      have e : upq Z (j + 1) x = upq Z j x + if decide (Z j ≤ x) = true then 1 else 0 := rfl
      rw [e] at hnx
      rw [if_neg (i_nle (by omega) (by omega) (by omega)), if_pos (inb_y (by omega) (by omega)), ix_nI (by omega), hZ j (by omega)]
      by_cases c : Z j ≤ x
      · rw [if_pos (decide_eq_true c)] at hnx
        rw [if_neg (by rw [iI_lt (by omega) (by omega) (by omega) (by omega)]; omega), lt_e, lt_e, show nI j + 1 = nI (j + 1) from nI_add j 1, show nI (upq Z j x) + 1 = nI (upq Z j x + 1) from nI_add _ 1]
        exact hnx
      · rw [if_neg (fun q => c (of_decide_eq_true q)), Nat.add_zero] at hnx
        rw [if_pos (by rw [iI_lt (by omega) (by omega) (by omega) (by omega)]; omega), lt_e, show nI j + 1 = nI (j + 1) from nI_add j 1]
        exact hnx) fu m (by omega) 0 (by omega)
theorem px_middle (hm0 : 0 < m) (hm : m ≤ 576) (h1 : Mm.gi σ 553 1 = nI m) (hZ : ∀ i, i < m → Mm.gi σ 554 i = iI (Z i)) (hb : ∀ i, i < m → (Z i).natAbs ≤ 1000000) (hfu : 600 < fu) : ∃ v, f_X2_middle YF fu 553 σ = some (iI v, σ) ∧ Mid Z m v ∧ v.natAbs ≤ 1000000 := by
  have key := lp_ind (f := s_X2_middle_8 YF fu 553) (a := fun _ _ _ _ => none) (fun d K => ∀ (st : Nat) (lo hi : Int), st + d = 32 → lo ≤ hi → hi - lo < 2 ^ d → -1000000 ≤ lo → hi ≤ 1000000 → upq Z m (lo - 1) ≤ (m - 1) / 2 → (m - 1) / 2 < upq Z m hi → ∃ v, K (iI lo) (iI hi) (nI st) σ = some (iI v, σ) ∧ Mid Z m v ∧ v.natAbs ≤ 1000000) (by
    intro d K ih st lo hi hst h2 h3 h4 h5 h6 h7
    unfold s_X2_middle_8 b_X2_middle_56
    by_cases h : 32 ≤ st
    · have : d = 0 := by omega
      subst this
      have e : lo = hi := by simp at h3; omega
      subst e
      exact ⟨lo, by rw [if_pos (show (32 : Int32) ≤ nI st from (i_le (a := 32) (by omega) (by omega)).mpr h)], ⟨h6, h7⟩, by omega⟩
    · rw [if_neg (show ¬ (32 : Int32) ≤ nI st from i_nle (a := 32) (by omega) (by omega) (by omega))]
      by_cases h8 : hi ≤ lo
      · have e : lo = hi := by omega
        subst e
        exact ⟨lo, by rw [if_pos ((iI_le (by omega) (by omega) (by omega) (by omega)).mpr h8)], ⟨h6, h7⟩, by omega⟩
      · obtain ⟨e, rfl⟩ : ∃ e, d = e + 1 := ⟨d - 1, by omega⟩
        rw [Int.pow_succ] at h3
        rw [if_neg (by rw [iI_le (by omega) (by omega) (by omega) (by omega)]; exact h8), iI_add, jx_half (by omega), bnd_some, px_howMany hm h1 hZ hb (by omega) hfu, bnd_some, h1, show nI m - 1 = nI (m - 1) from pk_sub (b := 1) (by omega), i_lit 2, pk_div (by omega) (by omega) (by omega)]
        have hu := cntq_le (fun q => decide (Z q ≤ (lo + hi) / 2)) m
        change upq Z m ((lo + hi) / 2) ≤ m at hu
        by_cases c : upq Z m ((lo + hi) / 2) ≤ (m - 1) / 2
        · rw [if_pos ((i_le (by omega) (by omega)).mpr c), lt_e, lt_e, show (1 : Int32) = iI 1 from rfl, iI_add, show nI st + iI 1 = nI (st + 1) from nI_add st 1]
          exact ih e (by omega) (st + 1) _ _ (by omega) (by omega) (by omega) (by omega) (by omega) (by rw [show (lo + hi) / 2 + 1 - 1 = (lo + hi) / 2 by omega]; exact c) h7
        · rw [if_neg (fun q => c ((i_le (by omega) (by omega)).mp q)), lt_e, show nI st + 1 = nI (st + 1) from nI_add st 1]
          exact ih e (by omega) (st + 1) _ _ (by omega) (by omega) (by omega) (by omega) (by omega) h6 (by omega)) fu 32 (by omega)
  refine key 0 (-1000000) 1000000 (by omega) (by omega) (by decide) (by omega) (by omega) ?_ ?_
  · have : upq Z m (-1000000 - 1) = 0 := cntq_none (fun q hq => decide_eq_false (by have := hb q hq; omega))
    omega
  · have : upq Z m 1000000 = m := cntq_all (fun q hq => decide_eq_true (by have := hb q hq; omega))
    omega
theorem pm_middle (hm0 : 0 < m) (hm : m ≤ 2304) (h1 : Mm.gi σ 595 56 = nI m) (hZ : ∀ i, i < m → Mm.gi σ 634 i = iI (Z i)) (hb : ∀ i, i < m → (Z i).natAbs ≤ 1000000) {v : Int} (hv : Mid Z m v) (hfu : 2400 < fu) : f_X12_middle YF fu 595 σ = some (iI v, σ) := by
  have inner : ∀ (K : Int32 → Int32 → Mm → Option (Int32 × Mm)) (x1 : Int32) (p : Nat), p < m → b_X12_middle_20 YF fu 595 K fu x1 (nI p) 0 0 0 σ = K (if Z p = v then iI v else x1) (nI (p + 1)) σ := by
    intro K x1 p hp
    have hbp := hb p hp
    exact lp_ind (f := s_X12_middle_20 YF fu 595 K) (a := fun _ _ _ _ _ _ => none) (fun d K2 => ∀ j, j + d = m → K2 x1 (nI p) (nI (cntq (fun q => decide (Z q < Z p)) j)) (nI (cntq (fun q => decide (Z q = Z p)) j)) (nI j) σ = K (if Z p = v then iI v else x1) (nI (p + 1)) σ) (by
      intro d K2 ih j hj
      unfold s_X12_middle_20 b_X12_middle_121 b_X12_middle_122 b_X12_middle_51 b_X12_middle_76
      rw [h1]
      by_cases h : m ≤ j
      · have : j = m := by omega
        subst this
        have l1 := cntq_le (fun q => decide (Z q < Z p)) j
        have l2 := cntq_le (fun q => decide (Z q = Z p)) j
        have hi := mid_iff hv (Z p)
        rw [if_pos ((i_le (by omega) (by omega)).mpr h), show nI j - 1 = nI (j - 1) from pk_sub (b := 1) (by omega), i_lit 2, pk_div (by omega) (by omega) (by omega), nI_add]
        by_cases c1 : (j - 1) / 2 < cntq (fun q => decide (Z q < Z p)) j
        · rw [if_pos ((i_lt (by omega) (by omega)).mpr c1), lt_e, if_neg (fun e => by have := hi.mpr e; omega), show nI p + 1 = nI (p + 1) from nI_add p 1]
        · rw [if_neg (fun q => c1 ((i_lt (by omega) (by omega)).mp q))]
          by_cases c2 : cntq (fun q => decide (Z q < Z p)) j + cntq (fun q => decide (Z q = Z p)) j ≤ (j - 1) / 2
          · rw [if_pos ((i_le (by omega) (by omega)).mpr c2), lt_e, if_neg (fun e => by have := hi.mpr e; omega), show nI p + 1 = nI (p + 1) from nI_add p 1]
          · have ev := hi.mp ⟨by omega, by omega⟩
            rw [if_neg (fun q => c2 ((i_le (by omega) (by omega)).mp q)), if_pos (inb_y (by omega) (by omega)), lt_e, ix_nI (by omega), hZ p hp, ev, if_pos rfl, show nI p + 1 = nI (p + 1) from nI_add p 1]
      · have hnx := ih (d - 1) (by omega) (j + 1) (by omega)
        rw [cntq_s, cntq_s] at hnx
        have hbj := hb j (by omega)
        rw [if_neg (i_nle (by omega) (by omega) (by omega)), if_pos (inb_y (by omega) (by omega)), if_pos (inb_y (by omega) (by omega)), ix_nI (by omega), ix_nI (by omega), hZ j (by omega), hZ p hp]
        have fin : ∀ (t0 : Int32) (n0 : Nat), t0 = nI n0 → n0 = (if decide (Z j < Z p) = true then 1 else 0) → lt_ (nI (cntq (fun q => decide (Z q < Z p)) j) + t0) (fun (x3_11 : Int32) => if inb (nI j) 2304 = true then if inb (nI p) 2304 = true then if iI (Z j) = iI (Z p) then lt_ (nI (cntq (fun q => decide (Z q = Z p)) j) + 1) (fun (x4_18 : Int32) => lt_ (nI j + 1) (fun (x5_19 : Int32) => K2 x1 (nI p) x3_11 x4_18 x5_19 σ)) else lt_ (nI (cntq (fun q => decide (Z q = Z p)) j) + 0) (fun (x4_18 : Int32) => lt_ (nI j + 1) (fun (x5_19 : Int32) => K2 x1 (nI p) x3_11 x4_18 x5_19 σ)) else none else none) = K (if Z p = v then iI v else x1) (nI (p + 1)) σ := by
          intro t0 n0 ht hn0
          subst ht
          rw [← hn0] at hnx
          rw [lt_e, if_pos (inb_y (by omega) (by omega)), if_pos (inb_y (by omega) (by omega)), nI_add]
          by_cases c : Z j = Z p
          · rw [if_pos (decide_eq_true c)] at hnx
            rw [if_pos (by rw [c]), lt_e, lt_e, show nI j + 1 = nI (j + 1) from nI_add j 1, show nI (cntq (fun q => decide (Z q = Z p)) j) + 1 = nI (cntq (fun q => decide (Z q = Z p)) j + 1) from nI_add _ 1]
            exact hnx
          · rw [if_neg (fun q => c (of_decide_eq_true q)), Nat.add_zero] at hnx
            rw [if_neg (by rw [iI_eq (by omega) (by omega) (by omega) (by omega)]; exact c), lt_e, lt_e, show nI j + 1 = nI (j + 1) from nI_add j 1, Int32.add_zero]
            exact hnx
        by_cases c : Z p ≤ Z j
        · rw [if_pos ((iI_le (by omega) (by omega) (by omega) (by omega)).mpr c)]
          exact fin 0 0 rfl (by rw [if_neg (fun q => by have := of_decide_eq_true q; omega)])
        · rw [if_neg (by rw [iI_le (by omega) (by omega) (by omega) (by omega)]; exact c)]
          exact fin 1 1 rfl (by rw [if_pos (decide_eq_true (by omega))])) fu m (by omega) 0 (by omega)
  have key := lp_ind (f := s_X12_middle_4 YF fu 595) (a := fun _ _ _ => none) (fun d K => ∀ j, j + d = m → K (if cntq (fun q => decide (Z q = v)) j = 0 then (0 : Int32) else iI v) (nI j) σ = some (iI v, σ)) (by
    intro d K ih j hj
    unfold s_X12_middle_4
    rw [h1]
    by_cases h : m ≤ j
    · have : j = m := by omega
      subst this
      have := mid_ex hv
      rw [if_pos ((i_le (by omega) (by omega)).mpr h), if_neg (by omega)]
    · have hnx := ih (d - 1) (by omega) (j + 1) (by omega)
      rw [cntq_s] at hnx
      rw [if_neg (i_nle (by omega) (by omega) (by omega)), inner K _ j (by omega)]
      by_cases c : Z j = v
      · rw [if_pos (decide_eq_true c), if_neg (by omega)] at hnx
        rw [if_pos c]
        exact hnx
      · rw [if_neg (fun q => c (of_decide_eq_true q)), Nat.add_zero] at hnx
        rw [if_neg c]
        exact hnx) fu m (by omega)
  exact key 0 (by omega)
end MI
