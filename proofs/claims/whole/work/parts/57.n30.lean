/-! ways: kept, gone through -/
def WK (n : Nat) (ρ π : Mm) (w : Nat) : Prop := ∀ i, i < w → (∀ k, k < n → Mm.gi ρ 24 (24 * i + k) = Mm.gi π 620 (24 * i + k) ∧ rng (Mm.gi π 620 (24 * i + k)) 0 20000) ∧ Mm.gi π 620 (24 * i) = 0 ∧ (∀ k, k + 1 < n → (Mm.gi π 620 (24 * i + k)).toInt < (Mm.gi π 620 (24 * i + (k + 1))).toInt) ∧
    Mm.gl ρ (50 + i) 0 = Mm.gl π 621 i ∧ Mm.gl ρ (50 + i) 1 = Mm.gl π 622 i ∧ Mm.gl ρ (50 + i) 2 = Mm.gl π 623 i ∧ Mm.gl ρ (50 + i) 3 = Mm.gl π 624 i ∧
    (0 < (Mm.gl π 621 i).toInt ∧ (Mm.gl π 621 i).toInt ≤ 2000000000) ∧ (0 < (Mm.gl π 622 i).toInt ∧ (Mm.gl π 622 i).toInt ≤ 20000) ∧ (0 < (Mm.gl π 623 i).toInt ∧ (Mm.gl π 623 i).toInt ≤ 2000000000) ∧ (0 < (Mm.gl π 624 i).toInt ∧ (Mm.gl π 624 i).toInt ≤ 20000)
section WC
variable {ρ ρ' π π' : Mm} {C D : Nat → Nat → Prop} {j n w : Nat} {L : Nat → Int}
theorem LV_c (h : LV ρ π j) (F : Fx C ρ ρ') (G : Fx D π π') (c1 : ¬ C 20 j) (c2 : ∀ i, ¬ C (26 + j) i) (d1 : ¬ D 625 j) (d2 : ∀ o, 627 ≤ o → o ≤ 630 → ¬ D o j) : LV ρ' π' j := by
  unfold LV at h ⊢
  rw [F.gi c1, G.gi d1, F.gl (c2 0), F.gl (c2 1), F.gl (c2 2), F.gl (c2 3), G.gl (d2 627 (by omega) (by omega)), G.gl (d2 628 (by omega) (by omega)), G.gl (d2 629 (by omega) (by omega)), G.gl (d2 630 (by omega) (by omega))]
  exact h
theorem OP_c (h : OP L ρ π j) (F : Fx C ρ ρ') (G : Fx D π π') (c1 : ¬ C 21 j) (c2 : ¬ C 22 j) (d1 : ¬ D 625 j) (d2 : ¬ D 625 (j - 1)) (d3 : ¬ D 626 j) (d4 : ¬ D 627 (j - 1)) (d5 : ¬ D 628 (j - 1)) : OP L ρ' π' j := by
  unfold OP at h ⊢
  rw [F.gl c1, F.gl c2, G.gi d1, G.gi d2, G.gl d3, G.gl d4, G.gl d5]
  exact h
theorem WK_c (h : WK n ρ π w) (hw : w ≤ 500) (F : Fx C ρ ρ') (G : Fx D π π') (c1 : ∀ k, ¬ C 24 k) (c2 : ∀ i k, i < 500 → ¬ C (50 + i) k) (d1 : ∀ o k, 620 ≤ o → o ≤ 624 → ¬ D o k) : WK n ρ' π' w := by
  intro i hi
  have a := h i hi
  have e0 : ∀ k, Mm.gi π' 620 k = Mm.gi π 620 k := fun k => G.gi (d1 620 k (by omega) (by omega))
  have e24 : ∀ k, Mm.gi ρ' 24 k = Mm.gi ρ 24 k := fun k => F.gi (c1 k)
  have e5 : ∀ k, Mm.gl ρ' (50 + i) k = Mm.gl ρ (50 + i) k := fun k => F.gl (c2 i k (by omega))
  have e1 := G.gl (d1 621 i (by omega) (by omega))
  have e2 := G.gl (d1 622 i (by omega) (by omega))
  have e3 := G.gl (d1 623 i (by omega) (by omega))
  have e4 := G.gl (d1 624 i (by omega) (by omega))
  simp only [e0, e24, e5, e1, e2, e3, e4]
  exact a
end WC
def CK (w a b : Nat) : Prop := (a = 17 ∧ b = 3) ∨ a = 24 ∨ a = 50 + w
def DK (w a b : Nat) : Prop := (a = 595 ∧ b = 33) ∨ (a = 620 ∧ 24 * w ≤ b) ∨ (621 ≤ a ∧ a ≤ 624 ∧ b = w)
theorem keep_lock {ρ π : Mm} {n w fu : Nat} (hn2 : 2 ≤ n) (hn : n ≤ 24) (hw : w < 500) (h2 : Mm.gi ρ 17 2 = nI n) (h3 : Mm.gi ρ 17 3 = nI w) (h34 : Mm.gi π 595 34 = nI n) (h33 : Mm.gi π 595 33 = nI w) (h0 : Mm.gi π 625 0 = 0) (hV : ∀ j, j < n → LV ρ π j) (hC : ∀ j, 1 ≤ j → j < n → (Mm.gi π 625 (j - 1)).toInt < (Mm.gi π 625 j).toInt) (hK : WK n ρ π w) (hfu : 100 < fu) : ∃ ρ' π', f_X0_keep YF 17 ρ = some ρ' ∧ f_X12_keep YF fu 595 π = some π' ∧ Fx (CK w) ρ ρ' ∧ Fx (DK w) π π' ∧ Mm.gi ρ' 17 3 = nI (w + 1) ∧ Mm.gi π' 595 33 = nI (w + 1) ∧ WK n ρ' π' (w + 1) := by
  have iw : inb (nI w) 500 = true := inb_y (by omega) (by omega)
  have ip : inb (nI (n - 1)) 24 = true := inb_y (by omega) (by omega)
  have en : nI n - 1 = nI (n - 1) := pk_sub (b := 1) (by omega)
  have xw : ix (nI w) = w := ix_nI (by omega)
  have xp : ix (nI (n - 1)) = n - 1 := ix_nI (by omega)
  -- the reference
  have ref : ∃ π', f_X12_keep YF fu 595 π = some π' ∧ Fx (DK w) π π' ∧ Mm.gi π' 595 33 = nI (w + 1) ∧ (∀ i, i < n → Mm.gi π' 620 (24 * w + i) = Mm.gi π 625 i) ∧ (∀ i, i < 24 * w → Mm.gi π' 620 i = Mm.gi π 620 i) ∧ Mm.gl π' 621 w = Mm.gl π 627 (n - 1) ∧ Mm.gl π' 622 w = Mm.gl π 628 (n - 1) ∧ Mm.gl π' 623 w = Mm.gl π 629 (n - 1) ∧ Mm.gl π' 624 w = Mm.gl π 630 (n - 1) := by
    exact lp_ind (f := s_X12_keep_2 YF fu 595) (a := fun _ _ => none) (fun d K => ∀ j τ, j + d = n → Fx (fun a b => a = 620 ∧ 24 * w ≤ b) π τ → (∀ i, i < j → Mm.gi τ 620 (24 * w + i) = Mm.gi π 625 i) → ∃ π', K (nI j) τ = some π' ∧ Fx (DK w) π π' ∧ Mm.gi π' 595 33 = nI (w + 1) ∧ (∀ i, i < n → Mm.gi π' 620 (24 * w + i) = Mm.gi π 625 i) ∧ (∀ i, i < 24 * w → Mm.gi π' 620 i = Mm.gi π 620 i) ∧ Mm.gl π' 621 w = Mm.gl π 627 (n - 1) ∧ Mm.gl π' 622 w = Mm.gl π 628 (n - 1) ∧ Mm.gl π' 623 w = Mm.gl π 629 (n - 1) ∧ Mm.gl π' 624 w = Mm.gl π 630 (n - 1)) (by
      intro d K ih j τ hj hF hd
      have k34 : Mm.gi τ 595 34 = nI n := by rw [hF.gi (by omega)]; exact h34
      have k33 : Mm.gi τ 595 33 = nI w := by rw [hF.gi (by omega)]; exact h33
      unfold s_X12_keep_2
      rw [k34]
      by_cases h : n ≤ j
      · have : j = n := by omega
        subst this
        have g33 : ∀ (τ2 : Mm) (o x : Nat) (v : Int64), Mm.gi (Mm.sl τ2 o x v) 595 33 = Mm.gi τ2 595 33 := fun _ _ _ _ => rfl
        rw [if_pos ((i_le (by omega) (by omega)).mpr h), en, lt_e, if_pos ip, k33, if_pos iw, lt_e, if_pos ip, g33, k33, if_pos iw, lt_e, if_pos ip, g33, g33, k33, if_pos iw, lt_e, if_pos ip, g33, g33, g33, k33, if_pos iw, lt_e, lt_e, g33, g33, g33, g33, k33, xp, xw, show nI w + 1 = nI (w + 1) from nI_add w 1]
        refine ⟨_, rfl, ((((hF.mono (fun a b c => by unfold DK; omega)).tr (Fx.sl (by unfold DK; omega))).tr (Fx.sl (by unfold DK; omega))).tr (Fx.sl (by unfold DK; omega))).tr (Fx.sl (by unfold DK; omega)) |>.tr (Fx.si (by unfold DK; omega)), by rw [gi_s], fun i hi => ?_, fun i hi => ?_, ?_, ?_, ?_, ?_⟩
        · rw [gi_n (by omega)]; exact hd i hi
        · rw [gi_n (by omega)]; exact hF.gi (by omega)
        · rw [gl_i, gl_n (by omega), gl_n (by omega), gl_n (by omega), gl_s, hF.gl (by omega)]
        · rw [gl_i, gl_n (by omega), gl_n (by omega), gl_s, gl_n (by omega), hF.gl (by omega)]
        · rw [gl_i, gl_n (by omega), gl_s, gl_n (by omega), gl_n (by omega), hF.gl (by omega)]
        · rw [gl_i, gl_s, gl_n (by omega), gl_n (by omega), gl_n (by omega), hF.gl (by omega)]
      · rw [if_neg (i_nle (by omega) (by omega) (by omega)), if_pos (inb_y (by omega) (by omega)), k33, i_lit 24, i_mul, nI_add, if_pos (inb_y (by omega) (by omega)), lt_e, lt_e, ix_nI (by omega), ix_nI (by omega), hF.gi (by omega), show nI j + 1 = nI (j + 1) from nI_add j 1]
        refine ih (d - 1) (by omega) (j + 1) _ (by omega) (hF.tr (Fx.si ⟨rfl, by omega⟩)) (fun i hi => ?_)
        by_cases e : i = j
        · subst e; rw [gi_s]
        · rw [gi_n (by omega)]; exact hd i (by omega)) fu n (by omega) 0 π (by omega) Fx.rf (fun i hi => by omega)
  obtain ⟨π', r1, r2, r3, r4, r5, r6, r7, r8, r9⟩ := ref
  -- the class
  generalize hρ1 : Mm.cp ρ 20 0 24 (24 * w) n = ρ1
  have F1 : Fx (CK w) ρ ρ1 := by rw [← hρ1]; exact Fx_cp (fun k => Or.inr (Or.inl rfl))
  have q24 : ∀ i, i < n → Mm.gi ρ1 24 (24 * w + i) = Mm.gi ρ 20 i := fun i hi => by rw [← hρ1, cp_i (by omega) (by omega)]; congr 1; omega
  have q24o : ∀ i, i < 24 * w → Mm.gi ρ1 24 i = Mm.gi ρ 24 i := fun i hi => by rw [← hρ1, cp_n (by omega)]
  have ql : ∀ o k, Mm.gl ρ1 o k = Mm.gl ρ o k := fun o k => by rw [← hρ1]; rfl
  have c := px_copy (ρ := ρ1) (d := 50 + w) (s := 26 + (n - 1)) (by omega)
  generalize hρ2 : Mm.sl (Mm.sl (Mm.sl (Mm.sl ρ1 (50 + w) 0 (Mm.gl ρ1 (26 + (n - 1)) 0)) (50 + w) 1 (Mm.gl ρ1 (26 + (n - 1)) 1)) (50 + w) 2 (Mm.gl ρ1 (26 + (n - 1)) 2)) (50 + w) 3 (Mm.gl ρ1 (26 + (n - 1)) 3) = ρ2 at c
  have F2 : Fx (fun a _ => a = 50 + w) ρ1 ρ2 := by
    have S : ∀ (τ : Mm) (k : Nat) (v : Int64), Fx (fun a _ => a = 50 + w) τ (Mm.sl τ (50 + w) k v) := fun τ k v => Fx.sl rfl
    rw [← hρ2]; exact (((S _ _ _).tr (S _ _ _)).tr (S _ _ _)).tr (S _ _ _)
  have p0 : Mm.gl ρ2 (50 + w) 0 = Mm.gl ρ (26 + (n - 1)) 0 := by rw [← hρ2, gl_n (by omega), gl_n (by omega), gl_n (by omega), gl_s, ql]
  have p1 : Mm.gl ρ2 (50 + w) 1 = Mm.gl ρ (26 + (n - 1)) 1 := by rw [← hρ2, gl_n (by omega), gl_n (by omega), gl_s, ql]
  have p2 : Mm.gl ρ2 (50 + w) 2 = Mm.gl ρ (26 + (n - 1)) 2 := by rw [← hρ2, gl_n (by omega), gl_s, ql]
  have p3 : Mm.gl ρ2 (50 + w) 3 = Mm.gl ρ (26 + (n - 1)) 3 := by rw [← hρ2, gl_s, ql]
  have k3 : Mm.gi ρ1 17 3 = nI w := by rw [← hρ1, cp_o (by omega)]; exact h3
  have k2 : Mm.gi ρ1 17 2 = nI n := by rw [← hρ1, cp_o (by omega)]; exact h2
  have k3' : Mm.gi ρ2 17 3 = nI w := by rw [F2.gi (by omega)]; exact k3
  refine ⟨Mm.si ρ2 17 3 (nI (w + 1)), π', ?_, r1, (F1.tr (F2.mono (fun a b c => by unfold CK; omega))).tr (Fx.si (by unfold CK; omega)), r2, by rw [gi_s], r3, fun i hi => ?_⟩
  · unfold f_X0_keep
    rw [h3, h2, if_pos (show nI w < 500 from (i_lt (b := 500) (by omega) (by omega)).mpr hw), i_lit 24, i_mul, Nat.mul_comm w 24, if_pos ⟨by decide, nI_pos (by omega), nI_pos (by omega), by rw [show ix 0 = 0 from rfl, ix_nI (by omega)]; omega, by rw [ix_nI (by omega), ix_nI (by omega)]; omega⟩, lt_e, show ix 0 = 0 from rfl, ix_nI (by omega), ix_nI (by omega), hρ1, k3, k2, if_pos iw, en, if_pos ip, xw, xp, Nat.one_mul, Nat.one_mul, c, bn1_some, lt_e, k3', show nI w + 1 = nI (w + 1) from nI_add w 1]
  · by_cases e : i = w
    · subst e
      have hVn := hV (n - 1) (by omega)
      obtain ⟨-, -, ⟨v3, v4, v5, v6⟩, ⟨a1, a2, a3, a4⟩, a5, a6, a7, a8⟩ := hVn
      refine ⟨fun k hk => ?_, ?_, fun k hk => ?_, ?_, ?_, ?_, ?_, ?_, ?_, ?_, ?_⟩
      · rw [gi_n (by omega), F2.gi (by omega), q24 k hk, r4 k hk]
        exact ⟨(hV k hk).1, (hV k hk).2.1⟩
      · have := r4 0 (by omega)
        rw [Nat.add_zero] at this
        rw [this]; exact h0
      · rw [r4 k (by omega), r4 (k + 1) (by omega)]
        exact hC (k + 1) (by omega) (by omega)
      · rw [gl_i, p0, r6]; exact v3
      · rw [gl_i, p1, r7]; exact v4
      · rw [gl_i, p2, r8]; exact v5
      · rw [gl_i, p3, r9]; exact v6
      · rw [r6]; omega
      · rw [r7]; omega
      · rw [r8]; omega
      · rw [r9]; omega
    · obtain ⟨b1, b2, b3, b4, b5, b6, b7, b8, b9, b10, b11⟩ := hK i (by omega)
      have e5 : ∀ k, Mm.gl (Mm.si ρ2 17 3 (nI (w + 1))) (50 + i) k = Mm.gl ρ (50 + i) k := fun k => by rw [gl_i, F2.gl (by omega), ql]
      have e1 : Mm.gl π' 621 i = Mm.gl π 621 i := r2.gl (by unfold DK; omega)
      have e2 : Mm.gl π' 622 i = Mm.gl π 622 i := r2.gl (by unfold DK; omega)
      have e3 : Mm.gl π' 623 i = Mm.gl π 623 i := r2.gl (by unfold DK; omega)
      have e4 : Mm.gl π' 624 i = Mm.gl π 624 i := r2.gl (by unfold DK; omega)
      rw [e5, e5, e5, e5, e1, e2, e3, e4]
      refine ⟨fun k hk => ?_, ?_, fun k hk => ?_, b4, b5, b6, b7, b8, b9, b10, b11⟩
      · rw [gi_n (by omega), F2.gi (by omega), q24o _ (by omega), r5 _ (by omega)]
        exact b1 k hk
      · rw [r5 _ (by omega)]; exact b2
      · rw [r5 _ (by omega), r5 _ (by omega)]; exact b3 k hk
/-- what ties the class's search to the reference's at count tr, level k, with w ways kept -/
def RW (tm er : Nat → Int) (n : Nat) (ρ π : Mm) (k tr w : Nat) : Prop := DX tm er n ρ ∧ DM tm er n π ∧ Mm.gi ρ 17 1 = 0 ∧ Mm.gi ρ 17 2 = nI n ∧ Mm.gi π 595 34 = nI n ∧ Mm.gi ρ 17 3 = nI w ∧ Mm.gi π 595 33 = nI w ∧ w ≤ 500 ∧ Mm.gi ρ 17 4 = nI tr ∧ tr ≤ 20000 ∧ Mm.gi π 625 0 = 0 ∧ k < n ∧ (∀ j, j < k → LV ρ π j) ∧ (∀ j, 1 ≤ j → j ≤ k → OP (laq tm er) ρ π j) ∧ (∀ j, 1 ≤ j → j < k → (Mm.gi π 625 (j - 1)).toInt < (Mm.gi π 625 j).toInt) ∧ WK n ρ π w
def CSx (a b : Nat) : Prop := (a = 17 ∧ (b = 1 ∨ b = 3 ∨ b = 4)) ∨ (20 ≤ a ∧ a ≤ 24) ∨ (26 ≤ a ∧ a < 550)
def CSm (a b : Nat) : Prop := (a = 595 ∧ b = 33) ∨ (620 ≤ a ∧ a ≤ 630)
theorem seek_spent {ρ : Mm} {fu m k st : Nat} {lo hi : Int32} (h1 : Mm.gi ρ 17 1 = 1) (hk1 : 1 ≤ k) (hk : k < 24) (hst : st < 1000000) : b_X0_seek_28 YF fu 17 lo hi (m + 1) (nI k) (nI st) ρ = some (-5, Mm.si ρ 17 3 0) := by
  show s_X0_seek_28 YF fu 17 lo hi (b_X0_seek_28 YF fu 17 lo hi m) (nI k) (nI st) ρ = _
  unfold s_X0_seek_28 b_X0_seek_107
  rw [if_neg (show ¬ (1000000 : Int32) ≤ nI st from i_nle (a := 1000000) (by omega) (by omega) (by omega)), if_neg (nI_nle (by omega) (by omega)), h1, if_neg t10, if_neg t10, lt_e]
theorem ways_loop {tm er : Nat → Int} {n fu : Nat} {lo hi : Int32} (hn2 : 2 ≤ n) (hn : n ≤ 24) (hb : DB tm er n) (hfu : 100 < fu) : ∀ (d n1 n2 st k tr w : Nat) (ρ π : Mm), d + 1 < n1 → d < n2 → 2 * (20001 - tr) + k ≤ d → st + k ≤ 2 * tr + 1 → RW tm er n ρ π k tr w → ∃ (r b : Int32) (ρ' π' : Mm), b_X0_seek_28 YF fu 17 lo hi n1 (nI k) (nI st) ρ = some (r, ρ') ∧ b_X12_goThrough_9 YF fu 595 n2 (nI tr) (nI k) π = some (b, π') ∧ Fx CSx ρ ρ' ∧ Fx CSm π π' ∧ ((b = 1 ∧ ∃ w', w' ≤ 500 ∧ r = nI w' ∧ Mm.gi ρ' 17 1 = 0 ∧ Mm.gi ρ' 17 3 = nI w' ∧ Mm.gi π' 595 33 = nI w' ∧ WK n ρ' π' w') ∨ (b = 0 ∧ r = -5 ∧ Mm.gi ρ' 17 1 = 1 ∧ Mm.gi ρ' 17 3 = 0)) := by
  intro d
  induction d with
  | zero =>
    intro n1 n2 st k tr w ρ π h1 h2 h3 h4 hR
    have := hR.2.2.2.2.2.2.2.2.2.1
    omega
  | succ d ih =>
    intro n1 n2 st k tr w ρ π h1 h2 h3 h4 hR
    obtain ⟨n1, rfl⟩ : ∃ m, n1 = m + 1 := ⟨n1 - 1, by omega⟩
    obtain ⟨n2, rfl⟩ : ∃ m, n2 = m + 1 := ⟨n2 - 1, by omega⟩
    obtain ⟨hX, hM, g1, g2, g34, g3, g33, hw, g4, htr, g0, hk, hV, hO, hC, hK⟩ := id hR
    have sx : b_X0_seek_28 YF fu 17 lo hi (n1 + 1) (nI k) (nI st) ρ = s_X0_seek_28 YF fu 17 lo hi (b_X0_seek_28 YF fu 17 lo hi n1) (nI k) (nI st) ρ := rfl
    have sm : b_X12_goThrough_9 YF fu 595 (n2 + 1) (nI tr) (nI k) π = s_X12_goThrough_9 YF fu 595 (b_X12_goThrough_9 YF fu 595 n2) (nI tr) (nI k) π := rfl
    rw [sx, sm]
    unfold s_X0_seek_28 s_X12_goThrough_9 b_X0_seek_107 b_X0_seek_101
    rw [if_neg (show ¬ (1000000 : Int32) ≤ nI st from i_nle (a := 1000000) (by omega) (by omega) (by omega))]
    by_cases k0 : k = 0
    · subst k0
      refine ⟨nI w, 1, ρ, π, ?_, by rw [if_pos (by decide)]; rfl, Fx.rf, Fx.rf, Or.inl ⟨rfl, w, hw, rfl, g1, g3, g33, hK⟩⟩
      rw [if_pos (by decide), g1, if_pos rfl, g3]
    · have i1 : inb (nI k) 24 = true := inb_y (by omega) (by omega)
      have xk : ix (nI k) = k := ix_nI (by omega)
      obtain ⟨o1, o2, o3, o4, o5⟩ := hO k (by omega) (Nat.le_refl _)
      have hVp := hV (k - 1) (by omega)
      have em : Mm.gi π 625 k = iI (Mm.gi π 625 k).toInt := iI_of _
      have m0 : 0 ≤ (Mm.gi π 625 k).toInt := by have := hVp.2.1.1; omega
      rw [if_neg (nI_nle (by omega) (by omega)), if_neg (nI_nle (by omega) (by omega)), g1, if_pos rfl, if_pos i1, if_pos i1, if_pos i1, if_pos i1, xk, o1, o4]
      have zb : -9223372036854775808 ≤ (Mm.gl π 626 k).toInt ∧ (Mm.gl π 626 k).toInt < 9223372036854775808 := ⟨Int64.le_toInt _, Int64.toInt_lt _⟩
      have ez : Mm.gl π 626 k = lI (Mm.gl π 626 k).toInt := lI_of _
      have cx : lI ((Mm.gi π 625 k).toInt + 1) ≤ Mm.gl π 626 k ↔ (Mm.gi π 625 k).toInt < (Mm.gl π 626 k).toInt := by
        rw [ez, lI_le (by omega) (by omega) zb.1 zb.2, ← ez]; omega
      have cm : Int32.toInt64 (Mm.gi π 625 k) < Mm.gl π 626 k ↔ (Mm.gi π 625 k).toInt < (Mm.gl π 626 k).toInt := by
        rw [lI_i, ez, lI_lt (by omega) (by omega) zb.1 zb.2, ← ez]
      by_cases c : (Mm.gi π 625 k).toInt < (Mm.gl π 626 k).toInt
      · rw [if_pos (cx.mpr c), if_pos (cm.mpr c), if_pos i1, if_pos i1, lt_e, lt_e, show nI tr + 1 = nI (tr + 1) from nI_add tr 1]
        by_cases ct : tr < 20000
        · -- a count is tried
          obtain ⟨ρ1, π1, u1, u2, u3, u4, u5, u6, u7, u8⟩ := try_lock hn hb hX hM (by omega) hk hVp ⟨o1, o2, o3, o4, o5⟩ g4 ct c
          have hX1 : DX tm er n ρ1 := fun j hj => ⟨by rw [u3.gi (by unfold CT; omega)]; exact (hX j hj).1, by rw [u3.gi (by unfold CT; omega)]; exact (hX j hj).2⟩
          have hM1 : DM tm er n π1 := fun j hj => ⟨by rw [u4.gi (by unfold CB; omega)]; exact (hM j hj).1, by rw [u4.gi (by unfold CB; omega)]; exact (hM j hj).2⟩
          have a1 : Mm.gi ρ1 17 1 = 0 := by rw [u3.gi (by unfold CT; omega)]; exact g1
          have a2 : Mm.gi ρ1 17 2 = nI n := by rw [u3.gi (by unfold CT; omega)]; exact g2
          have a3 : Mm.gi ρ1 17 3 = nI w := by rw [u3.gi (by unfold CT; omega)]; exact g3
          have a34 : Mm.gi π1 595 34 = nI n := by rw [u4.gi (by unfold CB; omega)]; exact g34
          have a33 : Mm.gi π1 595 33 = nI w := by rw [u4.gi (by unfold CB; omega)]; exact g33
          have a0 : Mm.gi π1 625 0 = 0 := by rw [u4.gi (by unfold CB; omega)]; exact g0
          have aV : ∀ j, j < k + 1 → LV ρ1 π1 j := fun j hj => by
            by_cases e : j = k
            · subst e; exact u5
            · exact LV_c (hV j (by omega)) u3 u4 (by unfold CT; omega) (fun i => by unfold CT; omega) (by unfold CB; omega) (fun o q1 q2 => by unfold CB; omega)
          have aO : ∀ j, 1 ≤ j → j ≤ k → OP (laq tm er) ρ1 π1 j := fun j hj1 hj => by
            by_cases e : j = k
            · subst e; exact u6
            · exact OP_c (hO j hj1 hj) u3 u4 (by unfold CT; omega) (by unfold CT; omega) (by unfold CB; omega) (by unfold CB; omega) (by unfold CB; omega) (by unfold CB; omega) (by unfold CB; omega)
          have aC : ∀ j, 1 ≤ j → j < k + 1 → (Mm.gi π1 625 (j - 1)).toInt < (Mm.gi π1 625 j).toInt := fun j hj1 hj => by
            by_cases e : j = k
            · subst e; exact u8
            · rw [u4.gi (by unfold CB; omega), u4.gi (by unfold CB; omega)]; exact hC j hj1 (by omega)
          have aK : WK n ρ1 π1 w := WK_c hK hw u3 u4 (fun i => by unfold CT; omega) (fun i k' hi => by unfold CT; omega) (fun o k' q1 q2 => by unfold CB; omega)
          have F1 : Fx CSx ρ ρ1 := u3.mono (fun a b c => by unfold CT at c; unfold CSx; omega)
          have G1 : Fx CSm π π1 := u4.mono (fun a b c => by unfold CB at c; unfold CSm; omega)
          rw [u1, bnd_some, if_neg t10, u2, bn1_some, if_neg (show ¬ (20000 : Int32) < nI (tr + 1) from i_nlt (a := 20000) (by omega) (by omega) (by omega)), a2, a34, a33, show nI n - 1 = nI (n - 1) from pk_sub (b := 1) (by omega)]
          unfold b_X12_goThrough_83
          rw [a34, show nI n - 1 = nI (n - 1) from pk_sub (b := 1) (by omega)]
          by_cases ck : k = n - 1
          · rw [if_pos ((i_le (by omega) (by omega)).mpr (by omega)), if_pos (show nI k = nI (n - 1) by rw [ck])]
            by_cases cw : w < 500
            · obtain ⟨ρ2, π2, v1, v2, v3, v4, v5, v6, v7⟩ := keep_lock (fu := fu) hn2 hn cw a2 a3 a34 a33 a0 (fun j hj => aV j (by omega)) (fun j h1 h2 => aC j h1 (by omega)) aK hfu
              rw [v1, bn1_some, lt_e, if_neg (fun q => by have := (i_eq (b := 500) (by omega) (by omega)).mp q; omega), if_pos (show nI k = nI (n - 1) by rw [ck]), v2, bn1_some, show nI st + 1 = nI (st + 1) from nI_add st 1]
              obtain ⟨r, b, ρ', π', z1, z2, z3, z4, z5⟩ := ih n1 n2 (st + 1) k (tr + 1) (w + 1) ρ2 π2 (by omega) (by omega) (by omega) (by omega) ⟨fun j hj => ⟨by rw [v3.gi (by unfold CK; omega)]; exact (hX1 j hj).1, by rw [v3.gi (by unfold CK; omega)]; exact (hX1 j hj).2⟩, fun j hj => ⟨by rw [v4.gi (by unfold DK; omega)]; exact (hM1 j hj).1, by rw [v4.gi (by unfold DK; omega)]; exact (hM1 j hj).2⟩, by rw [v3.gi (by unfold CK; omega)]; exact a1, by rw [v3.gi (by unfold CK; omega)]; exact a2, by rw [v4.gi (by unfold DK; omega)]; exact a34, v5, v6, by omega, by rw [v3.gi (by unfold CK; omega)]; exact u7, by omega, by rw [v4.gi (by unfold DK; omega)]; exact a0, hk, fun j hj => LV_c (aV j (by omega)) v3 v4 (by unfold CK; omega) (fun i => by unfold CK; omega) (by unfold DK; omega) (fun o q1 q2 => by unfold DK; omega), fun j hj1 hj => OP_c (aO j hj1 hj) v3 v4 (by unfold CK; omega) (by unfold CK; omega) (by unfold DK; omega) (by unfold DK; omega) (by unfold DK; omega) (by unfold DK; omega) (by unfold DK; omega), fun j hj1 hj => by rw [v4.gi (by unfold DK; omega), v4.gi (by unfold DK; omega)]; exact aC j hj1 (by omega), v7⟩
              exact ⟨r, b, ρ', π', z1, z2, (F1.tr (v3.mono (fun a b c => by unfold CK at c; unfold CSx; omega))).tr z3, (G1.tr (v4.mono (fun a b c => by unfold DK at c; unfold CSm; omega))).tr z4, z5⟩
            · have ew : w = 500 := by omega
              subst ew
              obtain ⟨m, rfl⟩ : ∃ m, n1 = m + 1 := ⟨n1 - 1, by omega⟩
              have kp : f_X0_keep YF 17 ρ1 = some (Mm.si ρ1 17 1 1) := by
                unfold f_X0_keep
                rw [a3, if_neg (by decide), lt_e]
              rw [kp, bn1_some, lt_e, show nI st + 1 = nI (st + 1) from nI_add st 1, if_pos (show nI 500 = 500 from rfl), seek_spent (by rw [gi_s]) (by omega) (by omega) (by omega)]
              exact ⟨-5, 0, _, π1, rfl, rfl, (F1.tr (Fx.si (by unfold CSx; omega))).tr (Fx.si (by unfold CSx; omega)), G1, Or.inr ⟨rfl, rfl, by rw [gi_n (by omega), gi_s], by rw [gi_s]⟩⟩
          · rw [if_neg (i_nle (by omega) (by omega) (by omega)), if_neg (fun q => ck ((i_eq (by omega) (by omega)).mp q)), if_neg (fun q => ck ((i_eq (by omega) (by omega)).mp q)), lt_e, lt_e, show nI k + 1 = nI (k + 1) from nI_add k 1]
            obtain ⟨ρ2, π2, v1, v2, v3, v4, v5⟩ := open_lock (k := k + 1) hn hb hX1 hM1 (by omega) (by omega) (aV k (by omega))
            rw [v1, bn1_some, v2, bn1_some, lt_e, show nI st + 1 = nI (st + 1) from nI_add st 1]
            obtain ⟨r, b, ρ', π', z1, z2, z3, z4, z5⟩ := ih n1 n2 (st + 1) (k + 1) (tr + 1) w ρ2 π2 (by omega) (by omega) (by omega) (by omega) ⟨fun j hj => ⟨by rw [v3.gi (by omega)]; exact (hX1 j hj).1, by rw [v3.gi (by omega)]; exact (hX1 j hj).2⟩, fun j hj => ⟨by rw [v4.gi (by omega)]; exact (hM1 j hj).1, by rw [v4.gi (by omega)]; exact (hM1 j hj).2⟩, by rw [v3.gi (by omega)]; exact a1, by rw [v3.gi (by omega)]; exact a2, by rw [v4.gi (by omega)]; exact a34, by rw [v3.gi (by omega)]; exact a3, by rw [v4.gi (by omega)]; exact a33, hw, by rw [v3.gi (by omega)]; exact u7, by omega, by rw [v4.gi (by omega)]; exact a0, by omega, fun j hj => LV_c (aV j (by omega)) v3 v4 (by omega) (fun i => by omega) (by omega) (fun o q1 q2 => by omega), fun j hj1 hj => by
                by_cases e : j = k + 1
                · subst e; exact v5
                · exact OP_c (aO j hj1 (by omega)) v3 v4 (by omega) (by omega) (by omega) (by omega) (by omega) (by omega) (by omega), fun j hj1 hj => by rw [v4.gi (by omega), v4.gi (by omega)]; exact aC j hj1 (by omega), WK_c aK hw v3 v4 (fun i => by omega) (fun i k' hi => by omega) (fun o k' q1 q2 => by omega)⟩
            exact ⟨r, b, ρ', π', z1, z2, (F1.tr (v3.mono (fun a b c => by unfold CSx; omega))).tr z3, (G1.tr (v4.mono (fun a b c => by unfold CSm; omega))).tr z4, z5⟩
        · -- too many tried
          have et : tr = 20000 := by omega
          subst et
          obtain ⟨m, rfl⟩ : ∃ m, n1 = m + 1 := ⟨n1 - 1, by omega⟩
          have e5 : Mm.gi π 625 k + 1 = iI ((Mm.gi π 625 k).toInt + 1) := by
            generalize Mm.gi π 625 k = x at *
            rw [show x + 1 = iI x.toInt + iI 1 by rw [← iI_of]; rfl, iI_add]
          obtain ⟨π1, w1, w2, -⟩ := pm_bind (π := Mm.si π 625 k (Mm.gi π 625 k + 1)) (c := (Mm.gi π 625 k).toInt + 1) hn hb (fun j hj => ⟨by rw [gi_n (by omega)]; exact (hM j hj).1, by rw [gi_n (by omega)]; exact (hM j hj).2⟩) (by omega) hk hVp.2.2.2 (by rw [gi_s]; exact e5) (by omega)
          have tn : f_X0_tryNext YF 17 (nI k) ρ = some (0, Mm.si (Mm.si ρ 17 4 (nI 20001)) 17 1 1) := by
            unfold f_X0_tryNext
            rw [lt_e, g4, show nI 20000 + 1 = nI 20001 from nI_add 20000 1, gi_s, if_neg (show ¬ nI 20001 ≤ 20000 by decide), lt_e]; rfl
          rw [tn, bnd_some, if_pos rfl, lt_e, show nI st + 1 = nI (st + 1) from nI_add st 1, seek_spent (by rw [gi_s]) (by omega) (by omega) (by omega), w1, bn1_some, if_pos (show (20000 : Int32) < nI (20000 + 1) by decide)]
          exact ⟨-5, 0, _, π1, rfl, rfl, ((Fx.si (by unfold CSx; omega)).tr (Fx.si (by unfold CSx; omega))).tr (Fx.si (by unfold CSx; omega)), (Fx.si (by unfold CSm; omega)).tr (w2.mono (fun a b c => by unfold CSm; omega)), Or.inr ⟨rfl, rfl, by rw [gi_n (by omega), gi_s], by rw [gi_s]⟩⟩
      · rw [if_neg (fun q => c (cx.mp q)), if_neg (fun q => c (cm.mp q)), lt_e, lt_e, lt_e]
        obtain ⟨kk, rfl⟩ : ∃ kk, k = kk + 1 := ⟨k - 1, by omega⟩
        rw [pk_m1, show nI st + 1 = nI (st + 1) from nI_add st 1]
        exact ih n1 n2 (st + 1) kk tr w ρ π (by omega) (by omega) (by omega) (by omega) ⟨hX, hM, g1, g2, g34, g3, g33, hw, g4, htr, g0, by omega, fun j hj => hV j (by omega), fun j hj1 hj => hO j hj1 (by omega), fun j hj1 hj => hC j hj1 (by omega), hK⟩
