/-! ways: levels opened, counts tried, in the class and in the reference -/
def PR (la lb ha hb : Int) : Prop := (0 < lb ∧ lb ≤ 20000 ∧ 100000 * lb ≤ la ∧ la ≤ 2000000000) ∧ 0 < hb ∧ hb ≤ 20000 ∧ 100000 * hb ≤ ha ∧ ha ≤ 2000000000
theorem mul_can {x a b z : Int} (hx : 0 ≤ x) (hb : 0 < b) (hab : 100000 * b ≤ a) (h : x * a ≤ z * b) : 100000 * x ≤ z := by
  have h1 := Int.mul_le_mul_of_nonneg_left hab hx
  have h2 : (100000 * x) * b ≤ z * b := by
    have e : x * (100000 * b) = (100000 * x) * b := by grind
    omega
  exact Int.le_of_mul_le_mul_right h2 hb
theorem mul_can2 {x a b z : Int} (hx : 0 ≤ x) (hb : 0 < b) (hab : 100000 * b ≤ a) (h : a * x < z * b) : 100000 * x < z := by
  have h1 := Int.mul_le_mul_of_nonneg_left hab hx
  have h2 : (100000 * x) * b < z * b := by
    have e : x * (100000 * b) = (100000 * x) * b := by grind
    have e2 : a * x = x * a := Int.mul_comm a x
    omega
  exact Int.lt_of_mul_lt_mul_right h2 (by omega)
/-- the least count -/
theorem least_b {E ha hb : Int} (hb0 : 0 < hb) (hab : 100000 * hb ≤ ha) (hE : E ≤ 1005000000) : -((-(E * hb)) / ha) ≤ 10051 := by
  have hpos : 0 < ha := by omega
  have h1 := Int.mul_ediv_add_emod (-(E * hb)) ha
  have h2 := Int.emod_lt_of_pos (-(E * hb)) hpos
  generalize (-(E * hb)) / ha = q at *
  generalize (-(E * hb)) % ha = m at *
  by_cases c : -q - 1 < 0
  · omega
  · have h3 : (-q - 1) * ha ≤ E * hb := by
      have e : (-q - 1) * ha = -(ha * q) - ha := by grind
      omega
    have := mul_can (by omega) hb0 hab h3
    omega
theorem least_l {E ha hb : Int} (hb0 : 0 < hb) (hb1 : hb ≤ 20000) (hab : 100000 * hb ≤ ha) (hE : E.natAbs ≤ 1005000000) : (-((-(E * hb)) / ha)).natAbs ≤ 20100000000000 := by
  have h1 := ediv_abs (-(E * hb)) (show 0 < ha by omega)
  have h2 := mul_b (a := E) (b := hb) (A := 1005000000) (B := 20000) hE (by omega)
  omega
theorem most_b {L la lb c : Int} (hc : 0 ≤ c) (hb0 : 0 < lb) (hab : 100000 * lb ≤ la) (h : c ≤ L * lb / la) : 100000 * c ≤ L := by
  have h1 : c * la ≤ L * lb := (Int.le_ediv_iff_mul_le (by omega)).mp h
  exact mul_can hc hb0 hab h1
def eaq (tm er : Nat → Int) (k : Nat) : Int := 1000 * (tm k - tm 0 - er k - er 0)
def laq (tm er : Nat → Int) (k : Nat) : Int := 1000 * (tm k - tm 0 + er k + er 0)
def DB (tm er : Nat → Int) (n : Nat) : Prop := ∀ k, k < n → -1500 ≤ tm k ∧ tm k ≤ 1001500 ∧ 0 ≤ er k ∧ er k ≤ 1000
theorem eaq_b {tm er : Nat → Int} {n k : Nat} (h : DB tm er n) (hk : k < n) : (eaq tm er k).natAbs ≤ 1005000000 ∧ (laq tm er k).natAbs ≤ 1005000000 := by
  have h1 := h k hk
  have h2 := h 0 (by omega)
  unfold eaq laq
  omega
def DX (tm er : Nat → Int) (n : Nat) (ρ : Mm) : Prop := ∀ k, k < n → Mm.gi ρ 18 k = iI (tm k) ∧ Mm.gi ρ 19 k = iI (er k)
def DM (tm er : Nat → Int) (n : Nat) (π : Mm) : Prop := ∀ k, k < n → Mm.gi π 618 k = iI (tm k) ∧ Mm.gi π 619 k = iI (er k)
def LV (ρ π : Mm) (j : Nat) : Prop := Mm.gi ρ 20 j = Mm.gi π 625 j ∧ rng (Mm.gi π 625 j) 0 20000 ∧ (Mm.gl ρ (26 + j) 0 = Mm.gl π 627 j ∧ Mm.gl ρ (26 + j) 1 = Mm.gl π 628 j ∧ Mm.gl ρ (26 + j) 2 = Mm.gl π 629 j ∧ Mm.gl ρ (26 + j) 3 = Mm.gl π 630 j) ∧ PR (Mm.gl π 627 j).toInt (Mm.gl π 628 j).toInt (Mm.gl π 629 j).toInt (Mm.gl π 630 j).toInt
def OP (L : Nat → Int) (ρ π : Mm) (j : Nat) : Prop := Mm.gl ρ 21 j = lI ((Mm.gi π 625 j).toInt + 1) ∧ (Mm.gi π 625 (j - 1)).toInt ≤ (Mm.gi π 625 j).toInt ∧ (Mm.gi π 625 j).toInt ≤ 20000 ∧ Mm.gl ρ 22 j = Mm.gl π 626 j ∧ Mm.gl π 626 j = lI (L j * (Mm.gl π 628 (j - 1)).toInt / (Mm.gl π 627 (j - 1)).toInt)
section WO
variable {ρ π : Mm} {tm er : Nat → Int} {n k : Nat}
theorem px_lowK (hn : n ≤ 24) (hb : DB tm er n) (hD : DX tm er n ρ) (hk : k < n) : f_X0_lowest YF 17 (Mm.gi ρ 18 k) (Mm.gi ρ 19 k) ρ = some (lI (eaq tm er k), ρ) := by
  have h1 := hb k hk
  have h2 := hb 0 (by omega)
  unfold f_X0_lowest eaq
  rw [if_pos inb0, if_pos inb0, show ix 0 = 0 from rfl, (hD k hk).1, (hD k hk).2, (hD 0 (by omega)).1, (hD 0 (by omega)).2, iI_sub, iI_sub, iI_sub, lI_iI (by omega) (by omega), L1000, lI_mul]
theorem px_highK (hn : n ≤ 24) (hb : DB tm er n) (hD : DX tm er n ρ) (hk : k < n) : f_X0_highest YF 17 (Mm.gi ρ 18 k) (Mm.gi ρ 19 k) ρ = some (lI (laq tm er k), ρ) := by
  have h1 := hb k hk
  have h2 := hb 0 (by omega)
  unfold f_X0_highest laq
  rw [if_pos inb0, if_pos inb0, show ix 0 = 0 from rfl, (hD k hk).1, (hD k hk).2, (hD 0 (by omega)).1, (hD 0 (by omega)).2, iI_sub, iI_add, iI_add, lI_iI (by omega) (by omega), L1000, lI_mul]
theorem pm_early (hn : n ≤ 24) (hb : DB tm er n) (hD : DM tm er n π) (hk : k < n) : f_X12_early YF 595 (nI k) π = some (lI (eaq tm er k), π) := by
  have h1 := hb k hk
  have h2 := hb 0 (by omega)
  have hi : inb (nI k) 24 = true := inb_y (by omega) (by omega)
  unfold f_X12_early eaq
  rw [if_pos hi, if_pos inb0, if_pos hi, if_pos inb0, show ix 0 = 0 from rfl, ix_nI (by omega), (hD k hk).1, (hD k hk).2, (hD 0 (by omega)).1, (hD 0 (by omega)).2, iI_sub, iI_sub, iI_sub, lI_iI (by omega) (by omega), L1000, lI_mul]
theorem pm_late (hn : n ≤ 24) (hb : DB tm er n) (hD : DM tm er n π) (hk : k < n) : f_X12_late YF 595 (nI k) π = some (lI (laq tm er k), π) := by
  have h1 := hb k hk
  have h2 := hb 0 (by omega)
  have hi : inb (nI k) 24 = true := inb_y (by omega) (by omega)
  unfold f_X12_late laq
  rw [if_pos hi, if_pos inb0, if_pos hi, if_pos inb0, show ix 0 = 0 from rfl, ix_nI (by omega), (hD k hk).1, (hD k hk).2, (hD 0 (by omega)).1, (hD 0 (by omega)).2, iI_sub, iI_add, iI_add, lI_iI (by omega) (by omega), L1000, lI_mul]
theorem Y625 : (YF 625).2 = 24 := rfl
/-- the first count of a level -/
def fcn (c E ha hb : Int) : Int := if -((-(E * hb)) / ha) < c + 1 then c + 1 else -((-(E * hb)) / ha)
theorem open_lock (hn : n ≤ 24) (hb : DB tm er n) (hX : DX tm er n ρ) (hM : DM tm er n π) (hk1 : 1 ≤ k) (hk : k < n) (hV : LV ρ π (k - 1)) : ∃ ρ' π', f_X0_open YF 17 (nI k) ρ = some ρ' ∧ f_X12_open YF 595 (nI k) π = some π' ∧ Fx (fun a b => (a = 21 ∨ a = 22) ∧ b = k) ρ ρ' ∧ Fx (fun a b => (a = 625 ∨ a = 626) ∧ b = k) π π' ∧ OP (laq tm er) ρ' π' k := by
  obtain ⟨v1, v2, ⟨v3, v4, v5, v6⟩, ⟨p1, p2, p3, p4⟩, p5, p6, p7, p8⟩ := hV
  obtain ⟨e1, e2⟩ := eaq_b hb hk
  have lo := px_lowK hn hb hX hk
  have hi := px_highK hn hb hX hk
  have eml := fun (π1 : Mm) (hM1 : DM tm er n π1) => pm_late hn hb hM1 hk
  have eme := pm_early hn hb hM hk
  generalize hE : eaq tm er k = E at *
  generalize hL : laq tm er k = L at *
  have ela : Mm.gl π 627 (k - 1) = lI (Mm.gl π 627 (k - 1)).toInt := lI_of _
  have elb : Mm.gl π 628 (k - 1) = lI (Mm.gl π 628 (k - 1)).toInt := lI_of _
  have eha : Mm.gl π 629 (k - 1) = lI (Mm.gl π 629 (k - 1)).toInt := lI_of _
  have ehb : Mm.gl π 630 (k - 1) = lI (Mm.gl π 630 (k - 1)).toInt := lI_of _
  have ec : Mm.gi π 625 (k - 1) = iI (Mm.gi π 625 (k - 1)).toInt := iI_of _
  generalize hla : (Mm.gl π 627 (k - 1)).toInt = la at *
  generalize hlb : (Mm.gl π 628 (k - 1)).toInt = lb at *
  generalize hha : (Mm.gl π 629 (k - 1)).toInt = ha at *
  generalize hhb : (Mm.gl π 630 (k - 1)).toInt = hb' at *
  have hc : 0 ≤ (Mm.gi π 625 (k - 1)).toInt ∧ (Mm.gi π 625 (k - 1)).toInt ≤ 20000 := v2
  generalize hcc : (Mm.gi π 625 (k - 1)).toInt = c at *
  have b1 := least_b (E := E) p5 p7 (by omega)
  have b2 := least_l (E := E) p5 p6 p7 e1
  have b3 := mul_b (a := E) (b := hb') (A := 1005000000) (B := 20000) e1 (by omega)
  have b4 := mul_b (a := L) (b := lb) (A := 1005000000) (B := 20000) e2 (by omega)
  have i1 : inb (nI k) 24 = true := inb_y (by omega) (by omega)
  have i2 : inb (nI (k - 1)) 24 = true := inb_y (by omega) (by omega)
  have ek : nI k - 1 = nI (k - 1) := pk_sub (b := 1) hk1
  have ixk : ix (nI k) = k := ix_nI (by omega)
  have ixp : ix (nI (k - 1)) = k - 1 := ix_nI (by omega)
  -- the class
  have cl : f_X5_leastCount YF (26 + 1 * (k - 1)) (lI E) ρ = some (lI (-((-(E * hb')) / ha)), ρ) := by
    unfold f_X5_leastCount
    rw [Nat.one_mul, v6, v5, ehb, eha, lI_mul, px_ceiling (by omega) (by omega) (by omega), bnd_some]
  have first : (if lI (-((-(E * hb')) / ha)) < ((Int32.toInt64 (iI c)) + 1) then ((Int32.toInt64 (iI c)) + 1) else lI (-((-(E * hb')) / ha))) = lI (fcn c E ha hb') := by
    rw [lI_iI (by omega) (by omega), L1, lI_add]
    unfold fcn
    by_cases q : -((-(E * hb')) / ha) < c + 1
    · rw [if_pos ((lI_lt (by omega) (by omega) (by omega) (by omega)).mpr q), if_pos q]
    · rw [if_neg (by rw [lI_lt (by omega) (by omega) (by omega) (by omega)]; exact q), if_neg q]
  have fb : c + 1 ≤ fcn c E ha hb' ∧ fcn c E ha hb' ≤ 20001 := by
    unfold fcn; split <;> omega
  generalize hf : fcn c E ha hb' = f at *
  have cg : ∀ ρ1, (∀ j, Mm.gl ρ1 (26 + (k - 1)) j = Mm.gl ρ (26 + (k - 1)) j) → f_X5_greatestCount YF (26 + 1 * (k - 1)) (lI L) ρ1 = some (lI (L * lb / la), ρ1) := fun ρ1 h1 => by
    unfold f_X5_greatestCount
    rw [Nat.one_mul, h1, h1, v4, v3, elb, ela, lI_mul, px_floor (by omega) (by omega) (by omega), bnd_some]
  -- the reference
  have mu : f_X12_up YF (lI E * Mm.gl π 630 (k - 1)) (Mm.gl π 629 (k - 1)) π = some (lI (-((-(E * hb')) / ha)), π) := by
    rw [ehb, eha, lI_mul, pm_up (by omega) (by omega) (by omega)]
  have mt : ∀ t0 : Int64, t0 = lI f → b_X12_open_62 YF 595 (nI k) t0 (nI k) 625 π = some (Mm.sl (Mm.si π 625 k (iI (f - 1))) 626 k (lI (L * lb / la))) := by
    intro t0 ht
    subst ht
    have e32 : Int64.toInt32 (lI f) - 1 = iI (f - 1) := by
      have : Int64.toInt32 (lI f) = iI f := by unfold lI iI; rw [Int64.toInt32_ofInt]
      rw [this, show (1 : Int32) = iI 1 from rfl, iI_sub]
    have hM2 : DM tm er n (Mm.si π 625 k (iI (f - 1))) := fun j hj => ⟨by rw [gi_n (by omega)]; exact (hM j hj).1, by rw [gi_n (by omega)]; exact (hM j hj).2⟩
    have hl2 := eml _ hM2
    unfold b_X12_open_62
    rw [Y625, if_pos i1, lt_e, ixk, e32, hl2, bnd_some, ek, if_pos i2, if_pos i2, ixp, gl_i, gl_i, elb, ela, lI_mul, pm_down (by omega) (by omega) (by omega), bnd_some, if_pos i1, lt_e]
  refine ⟨Mm.sl (Mm.sl ρ 21 k (lI f)) 22 k (lI (L * lb / la)), Mm.sl (Mm.si π 625 k (iI (f - 1))) 626 k (lI (L * lb / la)), ?_, ?_, (Fx.sl ⟨Or.inl rfl, rfl⟩).tr (Fx.sl ⟨Or.inr rfl, rfl⟩), (Fx.si ⟨Or.inl rfl, rfl⟩).tr (Fx.sl ⟨Or.inr rfl, rfl⟩), ?_⟩
  · unfold f_X0_open
    rw [if_pos i1, if_pos i1, ixk, lo, bnd_some, if_pos i1, if_pos i1, hi, bnd_some, ek, if_pos i2, if_pos i2, ixp, cl, bnd_some, if_pos i1, v1, ec, first, lt_e, if_pos i2, cg _ (fun j => by rw [gl_n (by omega)]), bnd_some, if_pos i1, lt_e]
  · unfold f_X12_open
    rw [eme, bnd_some, ek, if_pos i2, if_pos i2, ixp, mu, bnd_some, if_pos i2, ec]
    have e64 : Int32.toInt64 (iI c + 1) = lI (c + 1) := by rw [show (1 : Int32) = iI 1 from rfl, iI_add, lI_iI (by omega) (by omega)]
    rw [e64]
    by_cases q : -((-(E * hb')) / ha) ≤ c + 1
    · rw [if_pos ((lI_le (by omega) (by omega) (by omega) (by omega)).mpr q), if_pos i2]
      have hq : fcn c E ha hb' = c + 1 := by unfold fcn; split <;> omega
      exact mt _ (by rw [← hf, hq])
    · rw [if_neg (by rw [lI_le (by omega) (by omega) (by omega) (by omega)]; exact q)]
      exact mt _ (by rw [← hf]; unfold fcn; rw [if_neg (by omega)])
  · have g5 : Mm.gi (Mm.sl (Mm.si π 625 k (iI (f - 1))) 626 k (lI (L * lb / la))) 625 k = iI (f - 1) := by rw [gi_l, gi_s]
    have g5p : Mm.gi (Mm.sl (Mm.si π 625 k (iI (f - 1))) 626 k (lI (L * lb / la))) 625 (k - 1) = Mm.gi π 625 (k - 1) := by rw [gi_l, gi_n (by omega)]
    refine ⟨?_, ?_, ?_, ?_, ?_⟩
    · rw [g5, gl_n (by omega), gl_s, iI_toInt (by omega) (by omega), show f - 1 + 1 = f by omega]
    · rw [g5, g5p, iI_toInt (by omega) (by omega), hcc]; omega
    · rw [g5, iI_toInt (by omega) (by omega)]; omega
    · rw [gl_s, gl_s]
    · rw [gl_s, gl_n (by omega), gl_n (by omega), gl_i, gl_i, hla, hlb, hL]
end WO
