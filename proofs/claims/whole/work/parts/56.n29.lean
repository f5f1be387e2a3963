/-! ways: a count tried, a way kept -/
def b1q (E c la lb : Int) : Prop := E * lb ≤ la * c
theorem Y627 : (YF 627).2 = 24 := rfl
theorem Y628 : (YF 628).2 = 24 := rfl
theorem Y629 : (YF 629).2 = 24 := rfl
/-- what a count leaves of the periods -/
def n0 (E c la lb : Int) : Int := if E * lb ≤ la * c then la else E
def n1 (E c la lb : Int) : Int := if E * lb ≤ la * c then lb else c
def n2 (L c ha hb : Int) : Int := if ha * c ≤ L * hb then ha else L
def n3 (L c ha hb : Int) : Int := if ha * c ≤ L * hb then hb else c
theorem narrow_PR {E L c la lb ha hb : Int} (hP : PR la lb ha hb) (hE : E ≤ 1005000000) (hL : L ≤ 1005000000) (hc : 1 ≤ c) (hc2 : c ≤ L * lb / la) : c ≤ 10050 ∧ PR (n0 E c la lb) (n1 E c la lb) (n2 L c ha hb) (n3 L c ha hb) := by
  obtain ⟨⟨p1, p2, p3, p4⟩, p5, p6, p7, p8⟩ := hP
  have h1 := most_b (show 0 ≤ c by omega) p1 p3 hc2
  refine ⟨by omega, ?_, ?_⟩
  · unfold n0 n1
    by_cases q : E * lb ≤ la * c
    · rw [if_pos q, if_pos q]; exact ⟨p1, p2, p3, p4⟩
    · rw [if_neg q, if_neg q]
      have := mul_can2 (x := c) (a := la) (b := lb) (z := E) (by omega) p1 p3 (by omega)
      exact ⟨by omega, by omega, by omega, by omega⟩
  · unfold n2 n3
    by_cases q : ha * c ≤ L * hb
    · rw [if_pos q, if_pos q]; exact ⟨p5, p6, p7, p8⟩
    · rw [if_neg q, if_neg q]
      exact ⟨by omega, by omega, by omega, by omega⟩
section WB
variable {ρ π : Mm} {tm er : Nat → Int} {n k : Nat}
theorem pm_bind (hn : n ≤ 24) (hb : DB tm er n) (hM : DM tm er n π) (hk1 : 1 ≤ k) (hk : k < n) (hP : PR (Mm.gl π 627 (k - 1)).toInt (Mm.gl π 628 (k - 1)).toInt (Mm.gl π 629 (k - 1)).toInt (Mm.gl π 630 (k - 1)).toInt) {c : Int} (hc : Mm.gi π 625 k = iI c) (hcb : 0 ≤ c ∧ c ≤ 20001) : ∃ π', f_X12_bind YF 595 (nI k) π = some π' ∧ Fx (fun a b => 627 ≤ a ∧ a ≤ 630 ∧ b = k) π π' ∧ Mm.gl π' 627 k = lI (n0 (eaq tm er k) c (Mm.gl π 627 (k - 1)).toInt (Mm.gl π 628 (k - 1)).toInt) ∧ Mm.gl π' 628 k = lI (n1 (eaq tm er k) c (Mm.gl π 627 (k - 1)).toInt (Mm.gl π 628 (k - 1)).toInt) ∧ Mm.gl π' 629 k = lI (n2 (laq tm er k) c (Mm.gl π 629 (k - 1)).toInt (Mm.gl π 630 (k - 1)).toInt) ∧ Mm.gl π' 630 k = lI (n3 (laq tm er k) c (Mm.gl π 629 (k - 1)).toInt (Mm.gl π 630 (k - 1)).toInt) := by
  obtain ⟨⟨p1, p2, p3, p4⟩, p5, p6, p7, p8⟩ := hP
  obtain ⟨e1, e2⟩ := eaq_b hb hk
  have eme := pm_early hn hb hM hk
  have eml := pm_late hn hb hM hk
  generalize hE : eaq tm er k = E at *
  generalize hL : laq tm er k = L at *
  have ela : Mm.gl π 627 (k - 1) = lI (Mm.gl π 627 (k - 1)).toInt := lI_of _
  have elb : Mm.gl π 628 (k - 1) = lI (Mm.gl π 628 (k - 1)).toInt := lI_of _
  have eha : Mm.gl π 629 (k - 1) = lI (Mm.gl π 629 (k - 1)).toInt := lI_of _
  have ehb : Mm.gl π 630 (k - 1) = lI (Mm.gl π 630 (k - 1)).toInt := lI_of _
  generalize (Mm.gl π 627 (k - 1)).toInt = la at *
  generalize (Mm.gl π 628 (k - 1)).toInt = lb at *
  generalize (Mm.gl π 629 (k - 1)).toInt = ha at *
  generalize (Mm.gl π 630 (k - 1)).toInt = hb' at *
  have b1 := mul_b (a := E) (b := lb) (A := 1005000000) (B := 20000) e1 (by omega)
  have b2 := mul_b (a := la) (b := c) (A := 2000000000) (B := 20001) (by omega) (by omega)
  have b3 := mul_b (a := ha) (b := c) (A := 2000000000) (B := 20001) (by omega) (by omega)
  have b4 := mul_b (a := L) (b := hb') (A := 1005000000) (B := 20000) e2 (by omega)
  have i1 : inb (nI k) 24 = true := inb_y (by omega) (by omega)
  have i2 : inb (nI (k - 1)) 24 = true := inb_y (by omega) (by omega)
  have ek : nI k - 1 = nI (k - 1) := pk_sub (b := 1) hk1
  have ixk : ix (nI k) = k := ix_nI (by omega)
  have ixp : ix (nI (k - 1)) = k - 1 := ix_nI (by omega)
  have c64 : Int32.toInt64 (iI c) = lI c := lI_iI (by omega) (by omega)
  have g630 : ∀ (τ : Mm) (x : Int64) (x7 : Int32), Fx (fun a b => 627 ≤ a ∧ a ≤ 630 ∧ b = k) π τ → x7 = (if ha * c ≤ L * hb' then 0 else 1) → x = lI (n2 L c ha hb') → ∃ π', b_X12_bind_163 YF 595 (nI k) x7 x (nI k) 629 τ = some π' ∧ Fx (fun a b => (a = 629 ∨ a = 630) ∧ b = k) τ π' ∧ Mm.gl π' 629 k = lI (n2 L c ha hb') ∧ Mm.gl π' 630 k = lI (n3 L c ha hb') := by
    intro τ x x7 hF hx7 hx
    subst hx hx7
    unfold b_X12_bind_163
    rw [Y629, if_pos i1, lt_e, ixk]
    unfold n3
    by_cases q : ha * c ≤ L * hb'
    · rw [if_pos q, if_pos q, if_pos rfl, ek, if_pos i2, if_pos i1, lt_e, ixp, gl_n (by omega), hF.gl (by omega), ehb]
      exact ⟨_, rfl, (Fx.sl ⟨Or.inl rfl, rfl⟩).tr (Fx.sl ⟨Or.inr rfl, rfl⟩), by rw [gl_n (by omega), gl_s], by rw [gl_s]⟩
    · rw [if_neg q, if_neg q, if_neg t10, if_pos i1, if_pos i1, lt_e, gi_l, hF.gi (by omega), hc, c64]
      exact ⟨_, rfl, (Fx.sl ⟨Or.inl rfl, rfl⟩).tr (Fx.sl ⟨Or.inr rfl, rfl⟩), by rw [gl_n (by omega), gl_s], by rw [gl_s]⟩
  have g101 : ∀ (τ : Mm) (x : Int64), Fx (fun a b => 627 ≤ a ∧ a ≤ 630 ∧ b = k) π τ → x = lI (n1 E c la lb) → Mm.gl τ 627 k = lI (n0 E c la lb) → ∃ π', b_X12_bind_101 YF 595 (nI k) (lI L) x (nI k) 628 τ = some π' ∧ Fx (fun a b => 627 ≤ a ∧ a ≤ 630 ∧ b = k) π π' ∧ Mm.gl π' 627 k = lI (n0 E c la lb) ∧ Mm.gl π' 628 k = lI (n1 E c la lb) ∧ Mm.gl π' 629 k = lI (n2 L c ha hb') ∧ Mm.gl π' 630 k = lI (n3 L c ha hb') := by
    intro τ x hF hx h7
    subst hx
    generalize hτ2 : Mm.sl τ 628 k (lI (n1 E c la lb)) = τ2
    have F2 : Fx (fun a b => 627 ≤ a ∧ a ≤ 630 ∧ b = k) π τ2 := by rw [← hτ2]; exact hF.tr (Fx.sl ⟨by omega, by omega, rfl⟩)
    have k7 : Mm.gl τ2 627 k = lI (n0 E c la lb) := by rw [← hτ2, gl_n (by omega)]; exact h7
    have k8 : Mm.gl τ2 628 k = lI (n1 E c la lb) := by rw [← hτ2, gl_s]
    unfold b_X12_bind_101 b_X12_bind_138
    rw [Y628, if_pos i1, lt_e, ixk, hτ2, ek, if_pos i2, if_pos i2, if_pos i1, ixp, F2.gl (by omega), F2.gl (by omega), F2.gi (by omega), hc, c64, eha, ehb, lI_mul, lI_mul]
    by_cases q : ha * c ≤ L * hb'
    · rw [if_pos ((lI_le (by omega) (by omega) (by omega) (by omega)).mpr q), if_pos rfl, if_pos i2]
      obtain ⟨π', u1, u2, u3, u4⟩ := g630 τ2 (lI ha) 0 F2 (by rw [if_pos q]) (by unfold n2; rw [if_pos q])
      exact ⟨π', u1, F2.tr (u2.mono (fun a b c => by omega)), by rw [u2.gl (by omega)]; exact k7, by rw [u2.gl (by omega)]; exact k8, u3, u4⟩
    · rw [if_neg (by rw [lI_le (by omega) (by omega) (by omega) (by omega)]; exact q), if_neg t10]
      obtain ⟨π', u1, u2, u3, u4⟩ := g630 τ2 (lI L) 1 F2 (by rw [if_neg q]) (by unfold n2; rw [if_neg q])
      exact ⟨π', u1, F2.tr (u2.mono (fun a b c => by omega)), by rw [u2.gl (by omega)]; exact k7, by rw [u2.gl (by omega)]; exact k8, u3, u4⟩
  unfold f_X12_bind b_X12_bind_48 b_X12_bind_72
  rw [eme, bnd_some, eml, bnd_some, ek, if_pos i2, if_pos i2, if_pos i1, ixp, ixk, hc, c64, ela, elb, lI_mul, lI_mul]
  by_cases q : E * lb ≤ la * c
  · rw [if_pos ((lI_le (by omega) (by omega) (by omega) (by omega)).mpr q), if_pos rfl, if_pos i2, Y627, if_pos i1, lt_e, if_pos rfl, if_pos i2, gl_n (by omega), elb]
    exact g101 _ _ (Fx.sl ⟨by omega, by omega, rfl⟩) (by unfold n1; rw [if_pos q]) (by rw [gl_s]; unfold n0; rw [if_pos q])
  · rw [if_neg (by rw [lI_le (by omega) (by omega) (by omega) (by omega)]; exact q), if_neg t10, Y627, if_pos i1, lt_e, if_neg t10, if_pos i1, gi_l, hc, c64]
    exact g101 _ _ (Fx.sl ⟨by omega, by omega, rfl⟩) (by unfold n1; rw [if_neg q]) (by rw [gl_s]; unfold n0; rw [if_neg q])
theorem px_copy {d s : Nat} (hds : d ≠ s) : f_X5_copy YF d s ρ = some (Mm.sl (Mm.sl (Mm.sl (Mm.sl ρ d 0 (Mm.gl ρ s 0)) d 1 (Mm.gl ρ s 1)) d 2 (Mm.gl ρ s 2)) d 3 (Mm.gl ρ s 3)) := by
  have h : ∀ (σ : Mm) (k : Nat) (v : Int64) (j : Nat), Mm.gl (Mm.sl σ d k v) s j = Mm.gl σ s j := fun σ k v j => gl_n (by omega)
  unfold f_X5_copy
  rw [lt_e, lt_e, lt_e, lt_e]
  simp only [h]
/-- the class narrows -/
theorem px_narrow {E L c la lb ha hb : Int} {d s : Nat} (hds : d ≠ s) (h0 : Mm.gl ρ s 0 = lI la) (h1 : Mm.gl ρ s 1 = lI lb) (h2 : Mm.gl ρ s 2 = lI ha) (h3 : Mm.gl ρ s 3 = lI hb) (hP : PR la lb ha hb) (hE : E.natAbs ≤ 1005000000) (hL : L.natAbs ≤ 1005000000) (hcb : 0 ≤ c ∧ c ≤ 20001) : ∃ ρ', f_X5_narrow YF d s (lI E) (lI L) (lI c) ρ = some ρ' ∧ Fx (fun a _ => a = d) ρ ρ' ∧ Mm.gl ρ' d 0 = lI (n0 E c la lb) ∧ Mm.gl ρ' d 1 = lI (n1 E c la lb) ∧ Mm.gl ρ' d 2 = lI (n2 L c ha hb) ∧ Mm.gl ρ' d 3 = lI (n3 L c ha hb) := by
  obtain ⟨⟨p1, p2, p3, p4⟩, p5, p6, p7, p8⟩ := hP
  have b1 := mul_b (a := E) (b := lb) (A := 1005000000) (B := 20000) hE (by omega)
  have b2 := mul_b (a := la) (b := c) (A := 2000000000) (B := 20001) (by omega) (by omega)
  have b3 := mul_b (a := ha) (b := c) (A := 2000000000) (B := 20001) (by omega) (by omega)
  have b4 := mul_b (a := L) (b := hb) (A := 1005000000) (B := 20000) hL (by omega)
  unfold f_X5_narrow
  rw [px_copy hds, bn1_some, h0, h1, h2, h3]
  generalize hρ1 : Mm.sl (Mm.sl (Mm.sl (Mm.sl ρ d 0 (lI la)) d 1 (lI lb)) d 2 (lI ha)) d 3 (lI hb) = ρ1
  have S : ∀ (τ : Mm) (k : Nat) (v : Int64), Fx (fun a _ => a = d) τ (Mm.sl τ d k v) := fun τ k v => Fx.sl rfl
  have F1 : Fx (fun a _ => a = d) ρ ρ1 := by rw [← hρ1]; exact (((S _ _ _).tr (S _ _ _)).tr (S _ _ _)).tr (S _ _ _)
  have k0 : Mm.gl ρ1 d 0 = lI la := by rw [← hρ1, gl_n (by omega), gl_n (by omega), gl_n (by omega), gl_s]
  have k1 : Mm.gl ρ1 d 1 = lI lb := by rw [← hρ1, gl_n (by omega), gl_n (by omega), gl_s]
  have k2 : Mm.gl ρ1 d 2 = lI ha := by rw [← hρ1, gl_n (by omega), gl_s]
  have k3 : Mm.gl ρ1 d 3 = lI hb := by rw [← hρ1, gl_s]
  clear hρ1
  have g33 : ∀ τ, Fx (fun a _ => a = d) ρ τ → Mm.gl τ d 2 = lI ha → Mm.gl τ d 3 = lI hb → ∃ ρ', b_X5_narrow_33 YF d s (lI E) (lI L) (lI c) τ = some ρ' ∧ Fx (fun a _ => a = d) ρ ρ' ∧ Mm.gl ρ' d 0 = Mm.gl τ d 0 ∧ Mm.gl ρ' d 1 = Mm.gl τ d 1 ∧ Mm.gl ρ' d 2 = lI (n2 L c ha hb) ∧ Mm.gl ρ' d 3 = lI (n3 L c ha hb) := by
    intro τ hF g2 g3
    unfold b_X5_narrow_33 n2 n3
    rw [g2, g3, lI_mul, lI_mul]
    by_cases q : ha * c ≤ L * hb
    · rw [if_pos ((lI_le (by omega) (by omega) (by omega) (by omega)).mpr q), if_pos q, if_pos q]
      exact ⟨τ, rfl, hF, rfl, rfl, g2, g3⟩
    · rw [if_neg (by rw [lI_le (by omega) (by omega) (by omega) (by omega)]; exact q), if_neg q, if_neg q, lt_e, lt_e]
      exact ⟨_, rfl, (hF.tr (Fx.sl rfl)).tr (Fx.sl rfl), by rw [gl_n (by omega), gl_n (by omega)], by rw [gl_n (by omega), gl_n (by omega)], by rw [gl_n (by omega), gl_s], by rw [gl_s]⟩
  rw [k0, k1, lI_mul, lI_mul]
  unfold n0 n1
  by_cases q : E * lb ≤ la * c
  · rw [if_pos ((lI_le (by omega) (by omega) (by omega) (by omega)).mpr q), if_pos q, if_pos q]
    obtain ⟨ρ', u1, u2, u3, u4, u5, u6⟩ := g33 ρ1 F1 k2 k3
    exact ⟨ρ', u1, u2, by rw [u3, k0], by rw [u4, k1], u5, u6⟩
  · rw [if_neg (by rw [lI_le (by omega) (by omega) (by omega) (by omega)]; exact q), if_neg q, if_neg q, lt_e, lt_e]
    obtain ⟨ρ', u1, u2, u3, u4, u5, u6⟩ := g33 (Mm.sl (Mm.sl ρ1 d 0 (lI E)) d 1 (lI c)) ((F1.tr (Fx.sl rfl)).tr (Fx.sl rfl)) (by rw [gl_n (by omega), gl_n (by omega)]; exact k2) (by rw [gl_n (by omega), gl_n (by omega)]; exact k3)
    exact ⟨ρ', u1, u2, by rw [u3, gl_n (by omega), gl_s], by rw [u4, gl_s], u5, u6⟩
def CT (k a b : Nat) : Prop := (a = 17 ∧ b = 4) ∨ ((a = 20 ∨ a = 21) ∧ b = k) ∨ a = 26 + k
def CB (k a b : Nat) : Prop := (a = 625 ∨ (627 ≤ a ∧ a ≤ 630)) ∧ b = k
theorem try_lock {tr : Nat} (hn : n ≤ 24) (hb : DB tm er n) (hX : DX tm er n ρ) (hM : DM tm er n π) (hk1 : 1 ≤ k) (hk : k < n) (hV : LV ρ π (k - 1)) (hO : OP (laq tm er) ρ π k) (h4 : Mm.gi ρ 17 4 = nI tr) (htr : tr < 20000) (hlt : (Mm.gi π 625 k).toInt < (Mm.gl π 626 k).toInt) : ∃ ρ' π', f_X0_tryNext YF 17 (nI k) ρ = some (1, ρ') ∧ f_X12_bind YF 595 (nI k) (Mm.si π 625 k (Mm.gi π 625 k + 1)) = some π' ∧ Fx (CT k) ρ ρ' ∧ Fx (CB k) π π' ∧ LV ρ' π' k ∧ OP (laq tm er) ρ' π' k ∧ Mm.gi ρ' 17 4 = nI (tr + 1) ∧ (Mm.gi π' 625 (k - 1)).toInt < (Mm.gi π' 625 k).toInt := by
  obtain ⟨v1, v2, ⟨v3, v4, v5, v6⟩, hP⟩ := hV
  obtain ⟨o1, o2, o3, o4, o5⟩ := hO
  obtain ⟨e1, e2⟩ := eaq_b hb hk
  have hc0 : 0 ≤ (Mm.gi π 625 k).toInt := by have := v2.1; omega
  have em : Mm.gi π 625 k = iI (Mm.gi π 625 k).toInt := iI_of _
  generalize hm : (Mm.gi π 625 k).toInt = m at *
  have b4 := mul_b (a := laq tm er k) (b := (Mm.gl π 628 (k - 1)).toInt) (A := 1005000000) (B := 20000) e2 (by have := hP.1; omega)
  have d4 := ediv_abs (laq tm er k * (Mm.gl π 628 (k - 1)).toInt) (show 0 < (Mm.gl π 627 (k - 1)).toInt by have := hP.1; omega)
  have hlt2 : m + 1 ≤ laq tm er k * (Mm.gl π 628 (k - 1)).toInt / (Mm.gl π 627 (k - 1)).toInt := by
    rw [o5, lI_toInt (by omega) (by omega)] at hlt
    omega
  obtain ⟨hc1, hPn⟩ := narrow_PR (E := eaq tm er k) hP (by omega) (by omega) (show 1 ≤ m + 1 by omega) hlt2
  have i1 : inb (nI k) 24 = true := inb_y (by omega) (by omega)
  have i2 : inb (nI (k - 1)) 24 = true := inb_y (by omega) (by omega)
  have ek : nI k - 1 = nI (k - 1) := pk_sub (b := 1) hk1
  have ixk : ix (nI k) = k := ix_nI (by omega)
  have ixp : ix (nI (k - 1)) = k - 1 := ix_nI (by omega)
  -- the reference
  have e5 : Mm.gi π 625 k + 1 = iI (m + 1) := by rw [em, show (1 : Int32) = iI 1 from rfl, iI_add]
  rw [e5]
  generalize hπ1 : Mm.si π 625 k (iI (m + 1)) = π1
  have G1 : Fx (CB k) π π1 := by rw [← hπ1]; exact Fx.si ⟨Or.inl rfl, rfl⟩
  have hl : ∀ o j, Mm.gl π1 o j = Mm.gl π o j := fun o j => by rw [← hπ1]; rfl
  have hM1 : DM tm er n π1 := fun j hj => ⟨by rw [G1.gi (by unfold CB; omega)]; exact (hM j hj).1, by rw [G1.gi (by unfold CB; omega)]; exact (hM j hj).2⟩
  obtain ⟨π', w1, w2, w3, w4, w5, w6⟩ := pm_bind (c := m + 1) hn hb hM1 hk1 hk (by rw [hl, hl, hl, hl]; exact hP) (by rw [← hπ1, gi_s]) (by omega)
  rw [hl, hl] at w3 w4 w5 w6
  have gm : Mm.gi π' 625 k = iI (m + 1) := by rw [w2.gi (by omega), ← hπ1, gi_s]
  have gp : Mm.gi π' 625 (k - 1) = Mm.gi π 625 (k - 1) := by rw [w2.gi (by omega), ← hπ1, gi_n (by omega)]
  -- the class
  generalize hρ1 : Mm.sl (Mm.si (Mm.si ρ 17 4 (nI (tr + 1))) 20 k (iI (m + 1))) 21 k (lI (m + 2)) = ρ1
  have F1 : Fx (CT k) ρ ρ1 := by rw [← hρ1]; exact ((Fx.si (by unfold CT; omega)).tr (Fx.si (by unfold CT; omega))).tr (Fx.sl (by unfold CT; omega))
  have hX1 : DX tm er n ρ1 := fun j hj => ⟨by rw [F1.gi (by unfold CT; omega)]; exact (hX j hj).1, by rw [F1.gi (by unfold CT; omega)]; exact (hX j hj).2⟩
  have q20 : Mm.gi ρ1 20 k = iI (m + 1) := by rw [← hρ1, gi_l, gi_s]
  have q21 : Mm.gl ρ1 21 k = lI (m + 2) := by rw [← hρ1, gl_s]
  have q4 : Mm.gi ρ1 17 4 = nI (tr + 1) := by rw [← hρ1, gi_l, gi_n (by omega), gi_s]
  have lo := px_lowK hn hb hX1 hk
  have hi := px_highK hn hb hX1 hk
  have hP2 := hP
  obtain ⟨ρ', u1, u2, u3, u4, u5, u6⟩ := px_narrow (ρ := ρ1) (E := eaq tm er k) (L := laq tm er k) (c := m + 1) (d := 26 + k) (s := 26 + (k - 1)) (by omega) (show Mm.gl ρ1 (26 + (k - 1)) 0 = lI (Mm.gl π 627 (k - 1)).toInt by rw [F1.gl (by unfold CT; omega), v3, ← lI_of]) (show Mm.gl ρ1 (26 + (k - 1)) 1 = lI (Mm.gl π 628 (k - 1)).toInt by rw [F1.gl (by unfold CT; omega), v4, ← lI_of]) (show Mm.gl ρ1 (26 + (k - 1)) 2 = lI (Mm.gl π 629 (k - 1)).toInt by rw [F1.gl (by unfold CT; omega), v5, ← lI_of]) (show Mm.gl ρ1 (26 + (k - 1)) 3 = lI (Mm.gl π 630 (k - 1)).toInt by rw [F1.gl (by unfold CT; omega), v6, ← lI_of]) hP e1 e2 (by omega)
  refine ⟨ρ', π', ?_, w1, F1.tr (u2.mono (fun a b c => by unfold CT; omega)), G1.tr (w2.mono (fun a b c => by unfold CB; omega)), ⟨?_, ?_, ⟨?_, ?_, ?_, ?_⟩, ?_⟩, ⟨?_, ?_, ?_, ?_, ?_⟩, ?_, ?_⟩
  · have e21 : Mm.gl (Mm.si ρ 17 4 (nI (tr + 1))) 21 k = lI (m + 1) := o1
    have e32 : Int64.toInt32 (lI (m + 1)) = iI (m + 1) := by unfold lI iI; rw [Int64.toInt32_ofInt]
    have e21b : Mm.gl (Mm.si (Mm.si ρ 17 4 (nI (tr + 1))) 20 k (iI (m + 1))) 21 k + 1 = lI (m + 2) := by
      have : Mm.gl (Mm.si (Mm.si ρ 17 4 (nI (tr + 1))) 20 k (iI (m + 1))) 21 k = lI (m + 1) := o1
      rw [this, L1, lI_add]; congr 1; omega
    unfold f_X0_tryNext
    rw [lt_e, h4, show nI tr + 1 = nI (tr + 1) from nI_add tr 1, gi_s, if_pos (show nI (tr + 1) ≤ 20000 from (i_le (b := 20000) (by omega) (by omega)).mpr (by omega)), if_pos i1, if_pos i1, lt_e, ixk, e21, e32, if_pos i1, if_pos i1, lt_e, e21b, hρ1, if_pos i1, ek, if_pos i2, if_pos i1, if_pos i1, lo, bnd_some, if_pos i1, if_pos i1, hi, bnd_some, if_pos i1, q20, lI_iI (by omega) (by omega), ixp, Nat.one_mul, Nat.one_mul, u1, bn1_some, zr1]
  · rw [gm, u2.gi (by omega)]; exact q20
  · rw [gm]; exact ⟨by rw [iI_toInt (by omega) (by omega)]; omega, by rw [iI_toInt (by omega) (by omega)]; omega⟩
  · rw [u3, w3]
  · rw [u4, w4]
  · rw [u5, w5]
  · rw [u6, w6]
  · have bE := e1
    obtain ⟨⟨p1, p2, p3, p4⟩, p5, p6, p7, p8⟩ := hPn
    rw [w3, w4, w5, w6, lI_toInt (by omega) (by omega), lI_toInt (by omega) (by omega), lI_toInt (by omega) (by omega), lI_toInt (by omega) (by omega)]
    exact ⟨⟨p1, p2, p3, p4⟩, p5, p6, p7, p8⟩
  · rw [u2.gl (by omega), q21, gm, iI_toInt (by omega) (by omega)]; congr 1; omega
  · rw [gm, gp, iI_toInt (by omega) (by omega)]; omega
  · rw [gm, iI_toInt (by omega) (by omega)]; omega
  · rw [u2.gl (by omega), F1.gl (by unfold CT; omega), o4, w2.gl (by omega), hl]
  · rw [w2.gl (by omega), w2.gl (by omega), w2.gl (by omega), hl, hl, hl]; exact o5
  · rw [u2.gi (by omega)]; exact q4
  · rw [gm, gp, iI_toInt (by omega) (by omega)]; omega
end WB
