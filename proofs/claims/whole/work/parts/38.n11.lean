/-! left, look -/
theorem inb0 : inb 0 24 = true := rfl
theorem ediv_abs (a : Int) {b : Int} (hb : 0 < b) : (a / b).natAbs ≤ a.natAbs := by
  rcases Int.le_total 0 a with h | h
  · have h1 := Int.ediv_nonneg h (show 0 ≤ b by omega)
    have h2 := Int.ediv_le_self b h
    omega
  · have h1 : a / b ≤ 0 := by
      have := Int.ediv_le_ediv hb h
      rw [Int.zero_ediv] at this
      exact this
    have h3 : a ≤ a / b := by
      rw [Int.le_ediv_iff_mul_le hb]
      have := Int.mul_le_mul_of_nonpos_left (a := a) (b := b) (c := 1) h (by omega)
      omega
    omega
/-- way i goes on to a count between lo and hi -/
def lwq (σ : Mm) (n : Nat) (lo hi : Int) (i : Nat) : Bool := decide ((Mm.gi σ 620 (24 * i + (n - 1))).toInt + 1 ≤ hi * (Mm.gl σ 622 i).toInt / (Mm.gl σ 621 i).toInt ∧ -((-(lo * (Mm.gl σ 624 i).toInt)) / (Mm.gl σ 623 i).toInt) ≤ hi * (Mm.gl σ 622 i).toInt / (Mm.gl σ 621 i).toInt)
def lfq (σ : Mm) (n : Nat) (lo hi : Int) : Nat → Nat
  | 0 => 0
  | i + 1 => lfq σ n lo hi i + if lwq σ n lo hi i = true then 1 else 0
theorem lfq_s (σ : Mm) (n : Nat) (lo hi : Int) (i : Nat) : lfq σ n lo hi (i + 1) = lfq σ n lo hi i + if lwq σ n lo hi i = true then 1 else 0 := rfl
theorem lfq_le (σ : Mm) (n : Nat) (lo hi : Int) : ∀ i, lfq σ n lo hi i ≤ i := by
  intro i
  induction i with
  | zero => exact Nat.le_refl _
  | succ i ih => rw [lfq_s]; split <;> omega
def loq (σ : Mm) (t e : Int) : Int := 1000 * (t - (Mm.gi σ 618 0).toInt - e - (Mm.gi σ 619 0).toInt)
def hiq (σ : Mm) (t e : Int) : Int := 1000 * (t - (Mm.gi σ 618 0).toInt + e + (Mm.gi σ 619 0).toInt)
section LK
variable {σ : Mm} {n w fu : Nat} {a1 a2 : Int32}
theorem lo_b (hW : WY σ n w) (h1 : 0 ≤ a1.toInt ∧ a1.toInt ≤ 2000000) (h2 : 0 ≤ a2.toInt ∧ a2.toInt ≤ 1000) : (loq σ a1.toInt a2.toInt).natAbs ≤ 3000000000 ∧ (hiq σ a1.toInt a2.toInt).natAbs ≤ 3000000000 := by
  obtain ⟨w1, w2, w3, w4, w5, w6, w7, w8, w9⟩ := hW
  obtain ⟨-, -, r1, r2⟩ := w8 0 (by omega)
  unfold rng at r1 r2
  unfold loq hiq
  omega
theorem lo_e (hW : WY σ n w) (h1 : 0 ≤ a1.toInt ∧ a1.toInt ≤ 2000000) (h2 : 0 ≤ a2.toInt ∧ a2.toInt ≤ 1000) : 1000 * (Int32.toInt64 (((a1 - (Mm.gi σ 618 0)) - a2) - (Mm.gi σ 619 0))) = lI (loq σ a1.toInt a2.toInt) ∧ 1000 * (Int32.toInt64 (((a1 - (Mm.gi σ 618 0)) + a2) + (Mm.gi σ 619 0))) = lI (hiq σ a1.toInt a2.toInt) := by
  obtain ⟨w1, w2, w3, w4, w5, w6, w7, w8, w9⟩ := hW
  obtain ⟨-, -, r1, r2⟩ := w8 0 (by omega)
  unfold loq hiq
  generalize Mm.gi σ 618 0 = c at r1 ⊢
  generalize Mm.gi σ 619 0 = e at r2 ⊢
  unfold rng at r1 r2
  have ec := iI_of c
  have ee := iI_of e
  have e1 := iI_of a1
  have e2 := iI_of a2
  generalize c.toInt = C at *
  generalize e.toInt = E at *
  generalize a1.toInt = A1 at *
  generalize a2.toInt = A2 at *
  subst ec ee e1 e2
  rw [iI_sub, iI_sub, iI_sub, iI_add, iI_add, lI_iI (by omega) (by omega), lI_iI (by omega) (by omega), L1000, lI_mul, lI_mul]
  exact ⟨rfl, rfl⟩
theorem px_lowest (hW : WY σ n w) (h1 : 0 ≤ a1.toInt ∧ a1.toInt ≤ 2000000) (h2 : 0 ≤ a2.toInt ∧ a2.toInt ≤ 1000) : f_X0_lowest YF 17 a1 a2 σ = some (lI (loq σ a1.toInt a2.toInt), σ) := by
  have e := (lo_e hW h1 h2).1
  obtain ⟨w1, w2, w3, w4, w5, w6, w7, w8, w9⟩ := hW
  obtain ⟨x1, x2, r1, r2⟩ := w8 0 (by omega)
  unfold f_X0_lowest
  rw [if_pos inb0, if_pos inb0, show ix 0 = 0 from rfl, x1, x2, e]
theorem px_highest (hW : WY σ n w) (h1 : 0 ≤ a1.toInt ∧ a1.toInt ≤ 2000000) (h2 : 0 ≤ a2.toInt ∧ a2.toInt ≤ 1000) : f_X0_highest YF 17 a1 a2 σ = some (lI (hiq σ a1.toInt a2.toInt), σ) := by
  have e := (lo_e hW h1 h2).2
  obtain ⟨w1, w2, w3, w4, w5, w6, w7, w8, w9⟩ := hW
  obtain ⟨x1, x2, r1, r2⟩ := w8 0 (by omega)
  unfold f_X0_highest
  rw [if_pos inb0, if_pos inb0, show ix 0 = 0 from rfl, x1, x2, e]
/-- the numbers of way i -/
theorem way_n (hW : WY σ n w) {i : Nat} (hiw : i < w) {lo hi : Int} (hlo : lo.natAbs ≤ 3000000000) (hhi : hi.natAbs ≤ 3000000000) : (lo * (Mm.gl σ 624 i).toInt).natAbs ≤ 60000000000000 ∧ (hi * (Mm.gl σ 622 i).toInt).natAbs ≤ 60000000000000 ∧ (0 < (Mm.gl σ 621 i).toInt ∧ (Mm.gl σ 621 i).toInt ≤ 2000000000) ∧ (0 < (Mm.gl σ 623 i).toInt ∧ (Mm.gl σ 623 i).toInt ≤ 2000000000) ∧ (0 ≤ (Mm.gi σ 620 (24 * i + (n - 1))).toInt ∧ (Mm.gi σ 620 (24 * i + (n - 1))).toInt ≤ 20000) ∧ Mm.gi σ 24 (24 * i + (n - 1)) = Mm.gi σ 620 (24 * i + (n - 1)) := by
  obtain ⟨w1, w2, w3, w4, w5, w6, w7, w8, w9⟩ := hW
  obtain ⟨y1, y2, y3, y4, y5, y6, y7, y8, y9, y10, y11⟩ := w9 i hiw
  obtain ⟨z1, z2⟩ := y1 (n - 1) (by omega)
  have m1 := mul_b (a := lo) (b := (Mm.gl σ 624 i).toInt) (A := 3000000000) (B := 20000) hlo (by omega)
  have m2 := mul_b (a := hi) (b := (Mm.gl σ 622 i).toInt) (A := 3000000000) (B := 20000) hhi (by omega)
  exact ⟨m1, m2, y8, y10, z2, z1⟩
theorem px_goOn (hW : WY σ n w) (h1 : 0 ≤ a1.toInt ∧ a1.toInt ≤ 2000000) (h2 : 0 ≤ a2.toInt ∧ a2.toInt ≤ 1000) (hfu : 600 < fu) : f_X0_goOn YF fu 17 a1 a2 σ = some (nI (lfq σ n (loq σ a1.toInt a2.toInt) (hiq σ a1.toInt a2.toInt) w), σ) := by
  have pl := px_lowest hW h1 h2
  have ph := px_highest hW h1 h2
  obtain ⟨b1, b2⟩ := lo_b hW h1 h2
  have wn := fun i (hi : i < w) => way_n hW hi b1 b2
  generalize loq σ a1.toInt a2.toInt = lo at *
  generalize hiq σ a1.toInt a2.toInt = hi at *
  obtain ⟨w1, w2, w3, w4, w5, w6, w7, w8, w9⟩ := hW
  exact lp_ind (f := s_X0_goOn_5 YF fu 17 a1 a2) (a := fun _ _ _ => none) (fun d k => ∀ i, i + d = w → k (nI (lfq σ n lo hi i)) (nI i) σ = some (nI (lfq σ n lo hi w), σ)) (by
    intro d k ih i hi'
    unfold s_X0_goOn_5
    rw [w6]
    by_cases h : w ≤ i
    · have : i = w := by omega
      subst this
      rw [if_pos ((i_le (by omega) (by omega)).mpr h)]
    · obtain ⟨m1, m2, y1, y3, y5, y6⟩ := wn i (by omega)
      obtain ⟨-, -, -, z1, z2, z3, z4, -⟩ := w9 i (by omega)
      have hn := ih (d - 1) (by omega) (i + 1) (by omega)
      have c1 : f_X5_leastCount YF (50 + 1 * i) (lI lo) σ = some (lI (-((-(lo * (Mm.gl σ 624 i).toInt)) / (Mm.gl σ 623 i).toInt)), σ) := by
        unfold f_X5_leastCount
        rw [Nat.one_mul, z4, z3, show Mm.gl σ 624 i = lI (Mm.gl σ 624 i).toInt from lI_of _, show Mm.gl σ 623 i = lI (Mm.gl σ 623 i).toInt from lI_of _, lI_mul, px_ceiling (by omega) (by omega) (by omega), bnd_some, ← lI_of, ← lI_of]
      have c2 : f_X5_greatestCount YF (50 + 1 * i) (lI hi) σ = some (lI (hi * (Mm.gl σ 622 i).toInt / (Mm.gl σ 621 i).toInt), σ) := by
        unfold f_X5_greatestCount
        rw [Nat.one_mul, z2, z1, show Mm.gl σ 622 i = lI (Mm.gl σ 622 i).toInt from lI_of _, show Mm.gl σ 621 i = lI (Mm.gl σ 621 i).toInt from lI_of _, lI_mul, px_floor (by omega) (by omega) (by omega), bnd_some, ← lI_of, ← lI_of]
      have d1 := ediv_abs (hi * (Mm.gl σ 622 i).toInt) y1.1
      have d2 := ediv_abs (-(lo * (Mm.gl σ 624 i).toInt)) y3.1
      rw [lfq_s] at hn
      rw [if_neg (i_nle (by omega) (by omega) (by omega)), w4, show nI n - 1 = nI (n - 1) from pk_sub (b := 1) (by omega), px_countOf (by omega) (by omega), bnd_some, if_pos (inb_y (by omega) (by omega)), ix_nI (by omega), pl, bnd_some, c1, bnd_some, lt_e, if_pos (inb_y (by omega) (by omega)), ph, bnd_some, c2, bnd_some, y6, lI_i, L1, lI_add]
      unfold b_X0_goOn_75
      have hl : (lwq σ n lo hi i = true) ↔ ((Mm.gi σ 620 (24 * i + (n - 1))).toInt + 1 ≤ hi * (Mm.gl σ 622 i).toInt / (Mm.gl σ 621 i).toInt ∧ -((-(lo * (Mm.gl σ 624 i).toInt)) / (Mm.gl σ 623 i).toInt) ≤ hi * (Mm.gl σ 622 i).toInt / (Mm.gl σ 621 i).toInt) := by unfold lwq; exact decide_eq_true_iff
      generalize (Mm.gi σ 620 (24 * i + (n - 1))).toInt = c at *
      generalize hi * (Mm.gl σ 622 i).toInt / (Mm.gl σ 621 i).toInt = F at *
      generalize -(lo * (Mm.gl σ 624 i).toInt) / (Mm.gl σ 623 i).toInt = G at *
      have em : (if lI (-G) < lI (c + 1) then lI (c + 1) else lI (-G)) = lI (if -G < c + 1 then c + 1 else -G) := by
        by_cases q : -G < c + 1
        · rw [if_pos ((lI_lt (by omega) (by omega) (by omega) (by omega)).mpr q), if_pos q]
        · rw [if_neg (by rw [lI_lt (by omega) (by omega) (by omega) (by omega)]; exact q), if_neg q]
      rw [em]
      by_cases q : F < (if -G < c + 1 then c + 1 else -G)
      · rw [if_neg (by rw [hl]; intro hh; split at q <;> omega), Nat.add_zero] at hn
        rw [if_pos ((lI_lt (by omega) (by omega) (by split <;> omega) (by split <;> omega)).mpr q), lt_e, show nI i + 1 = nI (i + 1) from nI_add i 1]
        exact hn
      · rw [if_pos (by rw [hl]; split at q <;> omega)] at hn
        rw [if_neg (by rw [lI_lt (by omega) (by omega) (by split <;> omega) (by split <;> omega)]; exact q), lt_e, lt_e, show nI i + 1 = nI (i + 1) from nI_add i 1, show nI (lfq σ n lo hi i) + 1 = nI (lfq σ n lo hi i + 1) from nI_add _ 1]
        exact hn) fu w (by omega) 0 (by omega)
theorem pm_leftAt (hW : WY σ n w) (h1 : 0 ≤ a1.toInt ∧ a1.toInt ≤ 2000000) (h2 : 0 ≤ a2.toInt ∧ a2.toInt ≤ 1000) (hfu : 600 < fu) : f_X12_leftAt YF fu 595 a1 a2 σ = some (nI (lfq σ n (loq σ a1.toInt a2.toInt) (hiq σ a1.toInt a2.toInt) w), σ) := by
  obtain ⟨e1, e2⟩ := lo_e hW h1 h2
  obtain ⟨b1, b2⟩ := lo_b hW h1 h2
  have wn := fun i (hi : i < w) => way_n hW hi b1 b2
  unfold f_X12_leftAt
  rw [if_pos inb0, if_pos inb0, lt_e, if_pos inb0, if_pos inb0, lt_e, show ix 0 = 0 from rfl, e1, e2]
  generalize loq σ a1.toInt a2.toInt = lo at *
  generalize hiq σ a1.toInt a2.toInt = hi at *
  obtain ⟨w1, w2, w3, w4, w5, w6, w7, w8, w9⟩ := hW
  exact lp_ind (f := s_X12_leftAt_53 YF fu 595 a1 a2) (a := fun _ _ _ _ _ => none) (fun d k => ∀ i, i + d = w → k (lI lo) (lI hi) (nI (lfq σ n lo hi i)) (nI i) σ = some (nI (lfq σ n lo hi w), σ)) (by
    intro d k ih i hi'
    unfold s_X12_leftAt_53
    rw [w7]
    by_cases h : w ≤ i
    · have : i = w := by omega
      subst this
      rw [if_pos ((i_le (by omega) (by omega)).mpr h)]
    · obtain ⟨m1, m2, y1, y3, y5, y6⟩ := wn i (by omega)
      have hn := ih (d - 1) (by omega) (i + 1) (by omega)
      have c1 : f_X12_up YF (lI lo * Mm.gl σ 624 i) (Mm.gl σ 623 i) σ = some (lI (-((-(lo * (Mm.gl σ 624 i).toInt)) / (Mm.gl σ 623 i).toInt)), σ) := by
        rw [show Mm.gl σ 624 i = lI (Mm.gl σ 624 i).toInt from lI_of _, show Mm.gl σ 623 i = lI (Mm.gl σ 623 i).toInt from lI_of _, lI_mul, pm_up (by omega) (by omega) (by omega), ← lI_of, ← lI_of]
      have c2 : f_X12_down YF (lI hi * Mm.gl σ 622 i) (Mm.gl σ 621 i) σ = some (lI (hi * (Mm.gl σ 622 i).toInt / (Mm.gl σ 621 i).toInt), σ) := by
        rw [show Mm.gl σ 622 i = lI (Mm.gl σ 622 i).toInt from lI_of _, show Mm.gl σ 621 i = lI (Mm.gl σ 621 i).toInt from lI_of _, lI_mul, pm_down (by omega) (by omega) (by omega), ← lI_of, ← lI_of]
      have d1 := ediv_abs (hi * (Mm.gl σ 622 i).toInt) y1.1
      have d2 := ediv_abs (-(lo * (Mm.gl σ 624 i).toInt)) y3.1
      rw [lfq_s] at hn
      have eix : 24 * nI i + nI n - 1 = nI (24 * i + (n - 1)) := by
        rw [i_lit 24, i_mul, nI_add, show nI (24 * i + n) - 1 = nI (24 * i + n - 1) from pk_sub (b := 1) (by omega)]
        congr 1; omega
      rw [if_neg (i_nle (by omega) (by omega) (by omega)), if_pos (inb_y (by omega) (by omega)), if_pos (inb_y (by omega) (by omega)), ix_nI (by omega), c1, bnd_some, w5, eix, if_pos (inb_y (by omega) (by omega)), lt_e, ix_nI (by omega)]
      unfold b_X12_leftAt_120 b_X12_leftAt_155
      have ec : Int32.toInt64 (Mm.gi σ 620 (24 * i + (n - 1)) + 1) = lI ((Mm.gi σ 620 (24 * i + (n - 1))).toInt + 1) := by
        generalize Mm.gi σ 620 (24 * i + (n - 1)) = x at y5
        rw [show x = iI x.toInt from iI_of x, show (1 : Int32) = iI 1 from rfl, iI_add, lI_iI (by omega) (by omega), iI_toInt (by omega) (by omega)]
      rw [ec]
      have hl : (lwq σ n lo hi i = true) ↔ ((Mm.gi σ 620 (24 * i + (n - 1))).toInt + 1 ≤ hi * (Mm.gl σ 622 i).toInt / (Mm.gl σ 621 i).toInt ∧ -((-(lo * (Mm.gl σ 624 i).toInt)) / (Mm.gl σ 623 i).toInt) ≤ hi * (Mm.gl σ 622 i).toInt / (Mm.gl σ 621 i).toInt) := by unfold lwq; exact decide_eq_true_iff
      generalize (Mm.gi σ 620 (24 * i + (n - 1))).toInt = c at *
      generalize hi * (Mm.gl σ 622 i).toInt / (Mm.gl σ 621 i).toInt = F at *
      generalize -(lo * (Mm.gl σ 624 i).toInt) / (Mm.gl σ 623 i).toInt = G at *
      by_cases q : -G ≤ c + 1
      · rw [if_pos ((lI_le (by omega) (by omega) (by omega) (by omega)).mpr q), if_pos (inb_y (by omega) (by omega)), if_pos (inb_y (by omega) (by omega)), ix_nI (by omega), c2, bnd_some]
        by_cases q2 : F < c + 1
        · rw [if_neg (by rw [hl]; intro hh; omega), Nat.add_zero] at hn
          rw [if_pos ((lI_lt (by omega) (by omega) (by omega) (by omega)).mpr q2), lt_e, lt_e, Int32.add_zero, show nI i + 1 = nI (i + 1) from nI_add i 1]
          exact hn
        · rw [if_pos (by rw [hl]; omega)] at hn
          rw [if_neg (by rw [lI_lt (by omega) (by omega) (by omega) (by omega)]; exact q2), lt_e, lt_e, show nI i + 1 = nI (i + 1) from nI_add i 1, show nI (lfq σ n lo hi i) + 1 = nI (lfq σ n lo hi i + 1) from nI_add _ 1]
          exact hn
      · rw [if_neg (by rw [lI_le (by omega) (by omega) (by omega) (by omega)]; exact q), if_pos (inb_y (by omega) (by omega)), if_pos (inb_y (by omega) (by omega)), ix_nI (by omega), c2, bnd_some]
        by_cases q2 : F < -G
        · rw [if_neg (by rw [hl]; intro hh; omega), Nat.add_zero] at hn
          rw [if_pos ((lI_lt (by omega) (by omega) (by omega) (by omega)).mpr q2), lt_e, lt_e, Int32.add_zero, show nI i + 1 = nI (i + 1) from nI_add i 1]
          exact hn
        · rw [if_pos (by rw [hl]; omega)] at hn
          rw [if_neg (by rw [lI_lt (by omega) (by omega) (by omega) (by omega)]; exact q2), lt_e, lt_e, show nI i + 1 = nI (i + 1) from nI_add i 1, show nI (lfq σ n lo hi i) + 1 = nI (lfq σ n lo hi i + 1) from nI_add _ 1]
          exact hn) fu w (by omega) 0 (by omega)
theorem px_canLook (hI : Inv σ) (c2 : Mm.gi σ 595 32 = 1) (hW : WY σ n w) : f_X0_canLook YF 17 a1 σ = some (if Mm.gi σ 618 (n - 1) ≤ a1 then 1 else 0, σ) := by
  have hst := px_stands hI.2.2.2.2
  obtain ⟨w1, w2, w3, w4, w5, w6, w7, w8, w9⟩ := hW
  rw [if_pos c2] at hst
  unfold f_X0_canLook
  rw [hst, bnd_some, if_neg t10, w4, show nI n - 1 = nI (n - 1) from pk_sub (b := 1) (by omega), if_pos (inb_y (by omega) (by omega)), ix_nI (by omega), (w8 (n - 1) (by omega)).1]
  by_cases q : a1 < Mm.gi σ 618 (n - 1)
  · rw [if_pos q, if_neg (Int32.not_le.mpr q)]; rfl
  · rw [if_neg q, if_pos (Int32.not_lt.mp q)]; rfl
end LK
theorem px_canLookn {σ : Mm} {a1 : Int32} (hI : Inv σ) (c2 : ¬ Mm.gi σ 595 32 = 1) : f_X0_canLook YF 17 a1 σ = some (0, σ) := by
  have hst := px_stands hI.2.2.2.2
  rw [if_neg c2] at hst
  unfold f_X0_canLook
  rw [hst, bnd_some, if_pos rfl]; rfl
theorem S_left {FU : Nat} (hFU : 10100 ≤ FU) : Sim_left Inv FU := by
  intro a1 a2 σ hI
  unfold f_X11_left f_X12_left
  by_cases c1 : 0 ≤ a1.toInt ∧ a1.toInt ≤ 2000000
  rotate_left
  · exact ⟨-1, σ, σ, by rw [gx_n 0 2000000 rfl rfl c1], by rw [gm_n 0 2000000 rfl rfl c1], hI⟩
  by_cases c2 : 0 ≤ a2.toInt ∧ a2.toInt ≤ 1000
  rotate_left
  · exact ⟨-1, σ, σ, by rw [gx_y 0 2000000 rfl rfl c1, gx_n 0 1000 rfl rfl c2], by rw [gm_y 0 2000000 rfl rfl c1, gm_n 0 1000 rfl rfl c2], hI⟩
  rw [gx_y 0 2000000 rfl rfl c1, gx_y 0 1000 rfl rfl c2]
  by_cases c3 : Mm.gi σ 595 32 = 1
  · obtain ⟨-, -, n, w, hW⟩ := IW_y hI.2.2.2.2 c3
    have hcl := px_canLook (a1 := a1) hI c3 hW
    have hg := px_goOn (fu := FU) hW c1 c2 (by omega)
    have hm := pm_leftAt (fu := FU) hW c1 c2 (by omega)
    obtain ⟨w1, w2, w3, w4, w5, w6, w7, w8, w9⟩ := hW
    by_cases c4 : Mm.gi σ 618 (n - 1) ≤ a1
    · rw [if_pos c4] at hcl
      exact ⟨_, σ, σ, by rw [hcl, bnd_some, if_neg t10, hg, bnd_some], by rw [gm_y 0 2000000 rfl rfl c1, gm_y 0 1000 rfl rfl c2, if_pos c3, w5, show nI n - 1 = nI (n - 1) from pk_sub (b := 1) (by omega), if_pos (inb_y (by omega) (by omega)), ix_nI (by omega), if_pos c4, hm, bnd_some], hI⟩
    · rw [if_neg c4] at hcl
      exact ⟨-2, σ, σ, by rw [hcl, bnd_some, if_pos rfl], by rw [gm_y 0 2000000 rfl rfl c1, gm_y 0 1000 rfl rfl c2, if_pos c3, w5, show nI n - 1 = nI (n - 1) from pk_sub (b := 1) (by omega), if_pos (inb_y (by omega) (by omega)), ix_nI (by omega), if_neg c4], hI⟩
  · exact ⟨-2, σ, σ, by rw [px_canLookn hI c3, bnd_some, if_pos rfl], by rw [gm_y 0 2000000 rfl rfl c1, gm_y 0 1000 rfl rfl c2, if_neg c3], hI⟩
/-- the look that leaves fewest -/
def bkq (V : Nat → Nat) : Nat → Option Nat
  | 0 => none
  | k + 1 => match bkq V k with
    | none => if 0 < V k then some k else none
    | some b => if 0 < V k ∧ V k < V b then some k else some b
theorem bkq_p (V : Nat → Nat) : ∀ {k b : Nat}, bkq V k = some b → b < k ∧ 0 < V b := by
  intro k
  induction k with
  | zero => intro b h; simp [bkq] at h
  | succ k ih =>
    intro b h
    simp only [bkq] at h
    cases hk : bkq V k with
    | none =>
      rw [hk] at h
      simp only at h
      split at h
      · injection h with h; subst h; exact ⟨by omega, by assumption⟩
      · cases h
    | some c =>
      rw [hk] at h
      simp only at h
      split at h
      · injection h with h; subst h; exact ⟨by omega, by omega⟩
      · injection h with h; subst h; have := ih hk; exact ⟨by omega, this.2⟩
theorem S_look {FU : Nat} (hFU : 10100 ≤ FU) : Sim_look Inv FU := by
  intro a1 a2 a3 a4 σ hI
  unfold f_X11_look f_X12_look
  by_cases c1 : 0 ≤ a1.toInt ∧ a1.toInt ≤ 2000000
  rotate_left
  · exact ⟨-1, σ, σ, by rw [gx_n 0 2000000 rfl rfl c1], by rw [gm_n 0 2000000 rfl rfl c1], hI⟩
  by_cases c2 : 1 ≤ a2.toInt ∧ a2.toInt ≤ 100000
  rotate_left
  · exact ⟨-1, σ, σ, by rw [gx_y 0 2000000 rfl rfl c1, gx_n 1 100000 rfl rfl c2], by rw [gm_y 0 2000000 rfl rfl c1, gm_n 1 100000 rfl rfl c2], hI⟩
  by_cases c3 : 1 ≤ a3.toInt ∧ a3.toInt ≤ 20
  rotate_left
  · exact ⟨-1, σ, σ, by rw [gx_y 0 2000000 rfl rfl c1, gx_y 1 100000 rfl rfl c2, gx_n 1 20 rfl rfl c3], by rw [gm_y 0 2000000 rfl rfl c1, gm_y 1 100000 rfl rfl c2, gm_n 1 20 rfl rfl c3], hI⟩
  by_cases c4 : 0 ≤ a4.toInt ∧ a4.toInt ≤ 1000
  rotate_left
  · exact ⟨-1, σ, σ, by rw [gx_y 0 2000000 rfl rfl c1, gx_y 1 100000 rfl rfl c2, gx_y 1 20 rfl rfl c3, gx_n 0 1000 rfl rfl c4], by rw [gm_y 0 2000000 rfl rfl c1, gm_y 1 100000 rfl rfl c2, gm_y 1 20 rfl rfl c3, gm_n 0 1000 rfl rfl c4], hI⟩
  rw [gx_y 0 2000000 rfl rfl c1, gx_y 1 100000 rfl rfl c2, gx_y 1 20 rfl rfl c3, gx_y 0 1000 rfl rfl c4]
  by_cases c5 : (a1 + (a2 * (a3 - 1))) ≤ 2000000
  rotate_left
  · exact ⟨-1, σ, σ, by rw [if_neg c5], by rw [gm_y 0 2000000 rfl rfl c1, gm_y 1 100000 rfl rfl c2, gm_y 1 20 rfl rfl c3, gm_y 0 1000 rfl rfl c4, if_neg c5], hI⟩
  rw [if_pos c5]
  by_cases c6 : Mm.gi σ 595 32 = 1
  rotate_left
  · exact ⟨-2, σ, σ, by rw [px_canLookn hI c6, bnd_some, if_pos rfl], by rw [gm_y 0 2000000 rfl rfl c1, gm_y 1 100000 rfl rfl c2, gm_y 1 20 rfl rfl c3, gm_y 0 1000 rfl rfl c4, if_pos c5, if_neg c6], hI⟩
  obtain ⟨-, -, n, w, hW⟩ := IW_y hI.2.2.2.2 c6
  have hcl := px_canLook (a1 := a1) hI c6 hW
  have w1 := hW.1
  have w2 := hW.2.1
  have w3 := hW.2.2.1
  have w5 := hW.2.2.2.2.1
  by_cases c7 : Mm.gi σ 618 (n - 1) ≤ a1
  rotate_left
  · rw [if_neg c7] at hcl
    exact ⟨-2, σ, σ, by rw [hcl, bnd_some, if_pos rfl], by rw [gm_y 0 2000000 rfl rfl c1, gm_y 1 100000 rfl rfl c2, gm_y 1 20 rfl rfl c3, gm_y 0 1000 rfl rfl c4, if_pos c5, if_pos c6, w5, show nI n - 1 = nI (n - 1) from pk_sub (b := 1) (by omega), if_pos (inb_y (by omega) (by omega)), ix_nI (by omega), if_neg c7], hI⟩
  rw [if_pos c7] at hcl
  obtain ⟨t, ht, rfl⟩ := i_in (n := 2000000) c1.1 c1.2 (by decide)
  obtain ⟨st, hst, rfl⟩ := i_in (n := 100000) (by omega) c2.2 (by decide)
  obtain ⟨m, hm, rfl⟩ := i_in (n := 20) (by omega) c3.2 (by decide)
  have hm1 : 1 ≤ m := by have := c3.1; rw [nI_toInt (by omega)] at this; omega
  have hsm : st * (m - 1) ≤ 100000 * 19 := Nat.mul_le_mul hst (by omega)
  have hc5 : t + st * (m - 1) ≤ 2000000 := by
    rw [show nI m - 1 = nI (m - 1) from pk_sub (b := 1) hm1, i_mul, nI_add] at c5
    exact (i_le (b := 2000000) (by omega) (by omega)).mp c5
  have hti : ∀ i, i < m → t + i * st ≤ 2000000 := fun i hi => by
    have := Nat.mul_le_mul_left st (show i ≤ m - 1 by omega)
    rw [Nat.mul_comm i st]
    omega
  generalize hV : (fun i => lfq σ n (loq σ ((t + i * st : Nat) : Int) a4.toInt) (hiq σ ((t + i * st : Nat) : Int) a4.toInt) w) = V
  have eV : ∀ i, lfq σ n (loq σ ((t + i * st : Nat) : Int) a4.toInt) (hiq σ ((t + i * st : Nat) : Int) a4.toInt) w = V i := fun i => by rw [← hV]
  have vb : ∀ i, V i ≤ 500 := fun i => by rw [← eV i]; have := lfq_le σ n (loq σ ((t + i * st : Nat) : Int) a4.toInt) (hiq σ ((t + i * st : Nat) : Int) a4.toInt) w; omega
  have xg : ∀ i, i < m → f_X0_goOn YF FU 17 (nI (t + i * st)) a4 σ = some (nI (V i), σ) := fun i hi => by
    have hb := hti i hi
    have e : (nI (t + i * st)).toInt = ((t + i * st : Nat) : Int) := nI_toInt (by omega)
    have := px_goOn (a1 := nI (t + i * st)) (fu := FU) hW (by rw [e]; omega) c4 (by omega)
    rw [e, eV] at this
    exact this
  have mg : ∀ i, i < m → f_X12_leftAt YF FU 595 (nI (t + i * st)) a4 σ = some (nI (V i), σ) := fun i hi => by
    have hb := hti i hi
    have e : (nI (t + i * st)).toInt = ((t + i * st : Nat) : Int) := nI_toInt (by omega)
    have := pm_leftAt (a1 := nI (t + i * st)) (fu := FU) hW (by rw [e]; omega) c4 (by omega)
    rw [e, eV] at this
    exact this
  have es : ∀ k, bkq V (k + 1) = match bkq V k with
    | none => if 0 < V k then some k else none
    | some b => if 0 < V k ∧ V k < V b then some k else some b := fun k => rfl
  generalize hB : (fun o : Option Nat => match o with | none => (-4 : Int32) | some b => nI (t + b * st)) = B
  have B0 : B none = -4 := by rw [← hB]
  have B1 : ∀ b, B (some b) = nI (t + b * st) := fun b => by rw [← hB]
  generalize hX : (fun o : Option Nat => match o with | none => (501 : Int32) | some b => nI (V b)) = X
  have X0 : X none = 501 := by rw [← hX]
  have X1 : ∀ b, X (some b) = nI (V b) := fun b => by rw [← hX]
  generalize hM : (fun o : Option Nat => match o with | none => (0 : Int32) | some b => nI (V b)) = M
  have M0 : M none = 0 := by rw [← hM]
  have M1 : ∀ b, M (some b) = nI (V b) := fun b => by rw [← hM]
  have kx := lp_ind (f := s_X0_bestLook_12 YF FU 17 (nI t) (nI st) (nI m) a4) (a := fun _ _ _ _ => none) (fun d k => ∀ i, i + d = m → k (B (bkq V i)) (X (bkq V i)) (nI i) σ = some (B (bkq V m), σ)) (by
    intro d k ih i hi
    unfold s_X0_bestLook_12
    by_cases h : m ≤ i
    · have : i = m := by omega
      subst this
      rw [if_pos ((i_le (by omega) (by omega)).mpr h)]
    · have hn := ih (d - 1) (by omega) (i + 1) (by omega)
      rw [es] at hn
      rw [if_neg (i_nle (by omega) (by omega) (by omega)), i_mul, nI_add, xg i (by omega), bnd_some]
      unfold b_X0_bestLook_56
      have hvi := vb i
      by_cases q : V i = 0
      · rw [if_pos (show nI (V i) ≤ 0 from (i_le (b := 0) (by omega) (by omega)).mpr (by omega)), lt_e, show nI i + 1 = nI (i + 1) from nI_add i 1]
        cases hb : bkq V i with
        | none => rw [hb] at hn; simp only [show ¬ 0 < V i by omega, if_false] at hn; exact hn
        | some b => rw [hb] at hn; simp only [show ¬ (0 < V i ∧ V i < V b) by omega, if_false] at hn; exact hn
      · rw [if_neg (nI_nle (by omega) (by omega))]
        cases hb : bkq V i with
        | none =>
          rw [hb] at hn
          simp only [show 0 < V i by omega, if_true] at hn
          rw [B1, X1] at hn
          rw [X0, if_neg (show ¬ (501 : Int32) ≤ nI (V i) from i_nle (a := 501) (by omega) (by omega) (by omega)), lt_e, lt_e, show nI i + 1 = nI (i + 1) from nI_add i 1]
          exact hn
        | some b =>
          have hvb := vb b
          rw [hb] at hn
          rw [X1]
          by_cases q2 : V b ≤ V i
          · simp only [show ¬ (0 < V i ∧ V i < V b) by omega, if_false] at hn
            rw [X1] at hn
            rw [if_pos ((i_le (by omega) (by omega)).mpr q2), lt_e, show nI i + 1 = nI (i + 1) from nI_add i 1]
            exact hn
          · simp only [show 0 < V i by omega, show V i < V b by omega, and_self, if_true] at hn
            rw [B1, X1] at hn
            rw [if_neg (i_nle (by omega) (by omega) (by omega)), lt_e, lt_e, show nI i + 1 = nI (i + 1) from nI_add i 1]
            exact hn) FU m (by omega) 0 (by omega)
  have km := lp_ind (f := s_X12_look_99 YF FU 595 (nI t) (nI st) (nI m) a4) (a := fun _ _ _ _ => none) (fun d k => ∀ i, i + d = m → k (B (bkq V i)) (M (bkq V i)) (nI i) σ = some (B (bkq V m), σ)) (by
    intro d k ih i hi
    unfold s_X12_look_99
    by_cases h : m ≤ i
    · have : i = m := by omega
      subst this
      rw [if_pos ((i_le (by omega) (by omega)).mpr h)]
    · have hn := ih (d - 1) (by omega) (i + 1) (by omega)
      rw [es] at hn
      rw [if_neg (i_nle (by omega) (by omega) (by omega)), i_mul, Nat.mul_comm st i, nI_add, mg i (by omega), bnd_some]
      unfold b_X12_look_138 b_X12_look_150
      have hvi := vb i
      by_cases q : V i = 0
      · rw [if_pos (show nI (V i) ≤ 0 from (i_le (b := 0) (by omega) (by omega)).mpr (by omega)), lt_e, show nI i + 1 = nI (i + 1) from nI_add i 1]
        cases hb : bkq V i with
        | none => rw [hb] at hn; simp only [show ¬ 0 < V i by omega, if_false] at hn; exact hn
        | some b => rw [hb] at hn; simp only [show ¬ (0 < V i ∧ V i < V b) by omega, if_false] at hn; exact hn
      · rw [if_neg (nI_nle (by omega) (by omega))]
        cases hb : bkq V i with
        | none =>
          rw [hb] at hn
          simp only [show 0 < V i by omega, if_true] at hn
          rw [B1, M1] at hn
          rw [B0, if_pos rfl, i_mul, Nat.mul_comm st i, nI_add, lt_e, lt_e, show nI i + 1 = nI (i + 1) from nI_add i 1]
          exact hn
        | some b =>
          have hvb := vb b
          have hbi := (bkq_p V hb).1
          have hbb := hti b (by omega)
          rw [hb] at hn
          rw [B1, M1, if_neg (nI_n4 (by omega))]
          by_cases q2 : V b ≤ V i
          · simp only [show ¬ (0 < V i ∧ V i < V b) by omega, if_false] at hn
            rw [B1, M1] at hn
            rw [if_pos ((i_le (by omega) (by omega)).mpr q2), lt_e, show nI i + 1 = nI (i + 1) from nI_add i 1]
            exact hn
          · simp only [show 0 < V i by omega, show V i < V b by omega, and_self, if_true] at hn
            rw [B1, M1] at hn
            rw [if_neg (i_nle (by omega) (by omega) (by omega)), i_mul, Nat.mul_comm st i, nI_add, lt_e, lt_e, show nI i + 1 = nI (i + 1) from nI_add i 1]
            exact hn) FU m (by omega) 0 (by omega)
  have z0 : bkq V 0 = none := rfl
  rw [z0, B0, X0] at kx
  rw [z0, B0, M0] at km
  refine ⟨B (bkq V m), σ, σ, ?_, ?_, hI⟩
  · rw [hcl, bnd_some, if_neg t10]
    change bnd (lp (s_X0_bestLook_12 YF FU 17 (nI t) (nI st) (nI m) a4) (fun _ _ _ _ => none) FU (-4) 501 0 σ) _ = _
    change lp (s_X0_bestLook_12 YF FU 17 (nI t) (nI st) (nI m) a4) (fun _ _ _ _ => none) FU (-4) 501 0 σ = _ at kx
    rw [kx, bnd_some]
  · rw [gm_y 0 2000000 rfl rfl c1, gm_y 1 100000 rfl rfl c2, gm_y 1 20 rfl rfl c3, gm_y 0 1000 rfl rfl c4, if_pos c5, if_pos c6, w5, show nI n - 1 = nI (n - 1) from pk_sub (b := 1) (by omega), if_pos (inb_y (by omega) (by omega)), ix_nI (by omega), if_pos c7]
    exact km
