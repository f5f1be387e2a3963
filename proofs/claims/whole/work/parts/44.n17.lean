/-! hum, shuffled -/
/-- the rest of layBoth behind the first star's residues -/
def lbq (fu : Nat) (a1 a2 : Int32) (σ : Mm) : Option (Int32 × Mm) := bnd (f_X12_layRest YF fu 595 a2 (Mm.gi σ 595 7) σ) (fun (r_7 : Int32) (σ_6 : Mm) => if r_7 = 0 then zret 0 σ_6 else if (Mm.gi σ_6 595 54) ≤ (Mm.gi σ_6 595 22) then b_X12_layBoth_101 YF fu 595 a1 a2 (Mm.gi σ_6 595 54) 595 σ_6 else b_X12_layBoth_101 YF fu 595 a1 a2 (Mm.gi σ_6 595 22) 595 σ_6)
theorem pm_lb33 {τ : Mm} {R : Nat → Int} {b fu : Nat} {a1 a2 : Int32} (hb : b ≤ 7) (h16 : ∀ i, i < b → Mm.gi τ 616 i = iI (R i)) (hfu : 100 < fu) : ∃ ρ, b_X12_layBoth_33 YF fu 595 a1 a2 (nI b) 595 τ = lbq fu a1 a2 ρ ∧ Fx (fun o k => (o = 595 ∧ k = 54) ∨ o = 632) τ ρ ∧ Mm.gi ρ 595 54 = nI b ∧ ∀ i, i < b → Mm.gi ρ 632 i = iI (R i) := by
  have key := lp_ind (f := s_X12_layBoth_38 YF fu 595 a1 a2) (a := fun _ _ => none) (fun d K => ∀ j ρ, j + d = b → Fx (fun o k => (o = 595 ∧ k = 54) ∨ o = 632) τ ρ → Mm.gi ρ 595 54 = nI b → (∀ i, i < j → Mm.gi ρ 632 i = iI (R i)) → ∃ ρ', K (nI j) ρ = lbq fu a1 a2 ρ' ∧ Fx (fun o k => (o = 595 ∧ k = 54) ∨ o = 632) τ ρ' ∧ Mm.gi ρ' 595 54 = nI b ∧ ∀ i, i < b → Mm.gi ρ' 632 i = iI (R i)) (by
    intro d K ih j ρ hj hF h54 hd
    unfold s_X12_layBoth_38
    rw [h54]
    by_cases h : b ≤ j
    · refine ⟨ρ, ?_, hF, h54, fun i hi => hd i (by omega)⟩
      rw [if_pos ((i_le (by omega) (by omega)).mpr h)]
      rfl
    · rw [if_neg (i_nle (by omega) (by omega) (by omega)), if_pos (inb_y (by omega) (by omega)), if_pos (inb_y (by omega) (by omega)), lt_e, lt_e, ix_nI (by omega), hF.gi (by omega), h16 j (by omega), show nI j + 1 = nI (j + 1) from nI_add j 1]
      refine ih (d - 1) (by omega) (j + 1) _ (by omega) (hF.tr (Fx.si (Or.inr rfl))) (by rw [gi_n (by omega)]; exact h54) (fun i hi => ?_)
      by_cases e : i = j
      · subst e; rw [gi_s]
      · rw [gi_n (by omega)]; exact hd i (by omega)) fu b (by omega)
  unfold b_X12_layBoth_33
  rw [lt_e]
  exact key 0 _ (by omega) (Fx.si (Or.inl ⟨rfl, rfl⟩)) (by rw [gi_s]) (fun i hi => by omega)
theorem pm_lb101 {τ : Mm} {S : Nat → Int} {b fu : Nat} {a1 a2 : Int32} (hb : b ≤ 7) (h16 : ∀ i, i < b → Mm.gi τ 616 i = iI (S i)) (hfu : 100 < fu) : ∃ ρ, b_X12_layBoth_101 YF fu 595 a1 a2 (nI b) 595 τ = some (if 2 ≤ b then 1 else 0, ρ) ∧ Fx (fun o k => (o = 595 ∧ k = 54) ∨ o = 633) τ ρ ∧ Mm.gi ρ 595 54 = nI b ∧ ∀ i, i < b → Mm.gi ρ 633 i = iI (S i) := by
  have key := lp_ind (f := s_X12_layBoth_106 YF fu 595 a1 a2) (a := fun _ _ => none) (fun d K => ∀ j ρ, j + d = b → Fx (fun o k => (o = 595 ∧ k = 54) ∨ o = 633) τ ρ → Mm.gi ρ 595 54 = nI b → (∀ i, i < j → Mm.gi ρ 633 i = iI (S i)) → ∃ ρ', K (nI j) ρ = some (if 2 ≤ b then 1 else 0, ρ') ∧ Fx (fun o k => (o = 595 ∧ k = 54) ∨ o = 633) τ ρ' ∧ Mm.gi ρ' 595 54 = nI b ∧ ∀ i, i < b → Mm.gi ρ' 633 i = iI (S i)) (by
    intro d K ih j ρ hj hF h54 hd
    unfold s_X12_layBoth_106
    rw [h54]
    by_cases h : b ≤ j
    · refine ⟨ρ, ?_, hF, h54, fun i hi => hd i (by omega)⟩
      rw [if_pos ((i_le (by omega) (by omega)).mpr h)]
      by_cases c : 2 ≤ b
      · rw [if_neg (show ¬ nI b < 2 from i_nlt (b := 2) (by omega) (by omega) (by omega)), if_pos c]; rfl
      · rw [if_pos (show nI b < 2 from (i_lt (b := 2) (by omega) (by omega)).mpr (by omega)), if_neg c]; rfl
    · rw [if_neg (i_nle (by omega) (by omega) (by omega)), if_pos (inb_y (by omega) (by omega)), if_pos (inb_y (by omega) (by omega)), lt_e, lt_e, ix_nI (by omega), hF.gi (by omega), h16 j (by omega), show nI j + 1 = nI (j + 1) from nI_add j 1]
      refine ih (d - 1) (by omega) (j + 1) _ (by omega) (hF.tr (Fx.si (Or.inr rfl))) (by rw [gi_n (by omega)]; exact h54) (fun i hi => ?_)
      by_cases e : i = j
      · subst e; rw [gi_s]
      · rw [gi_n (by omega)]; exact hd i (by omega)) fu b (by omega)
  unfold b_X12_layBoth_101
  rw [lt_e]
  exact key 0 _ (by omega) (Fx.si (Or.inl ⟨rfl, rfl⟩)) (by rw [gi_s]) (fun i hi => by omega)
/-- the two rows, in the class and in the reference -/
def BothQ (σ : Mm) (s1 s2 fu m : Nat) (τ σ' : Mm) (R S : Nat → Int) : Prop := f_X11_commonResidues YF fu 1 (nI s1) (nI s2) σ = some (nI m, τ) ∧ m ≤ 7 ∧ RB R m ∧ RB S m ∧ Fx CJ σ τ ∧ (∀ i, i < m → Mm.gi τ 550 i = iI (R i)) ∧ (∀ i, i < m → Mm.gi τ 551 i = iI (S i)) ∧ f_X12_layBoth YF fu 595 (nI s1) (nI s2) τ = some (if 2 ≤ m then 1 else 0, σ') ∧ Fx CJ σ σ' ∧ (2 ≤ m → Mm.gi σ' 595 54 = nI m ∧ (∀ i, i < m → Mm.gi σ' 632 i = iI (R i)) ∧ ∀ i, i < m → Mm.gi σ' 633 i = iI (S i))
theorem com_none {l : Nat} (h : l < 2 ^ 31) : (if 7 < (if nI 0 < nI l then nI 0 else nI l) then (7 : Int32) else (if nI 0 < nI l then nI 0 else nI l)) = nI 0 := by
  by_cases c : nI 0 < nI l
  · rw [if_pos c]; rfl
  · have : l = 0 := by
      by_cases e : l = 0
      · exact e
      · exact absurd ((i_lt (by omega) h).mpr (by omega)) c
    subst this
    rfl
theorem both_of {σ : Mm} (hI : Inv σ) {s1 s2 fu : Nat} (h1 : s1 < 4) (h2 : s2 < 4) (hfu : 10050 < fu) : ∃ m τ σ' R S, BothQ σ s1 s2 fu m τ σ' R S := by
  have z7 : ∀ (ρ : Mm), Mm.gi ρ 603 s1 = 0 → f_X12_layBoth YF fu 595 (nI s1) (nI s2) ρ = some (0, ρ) := fun ρ q => by
    unfold f_X12_layBoth
    rw [pm_layRestn h1 q, bnd_some, if_pos rfl]
    rfl
  rcases SD_of hI h1 with ⟨q1, q2⟩ | ⟨t1, md1, T1, v, hS1⟩
  · have x1 : f_X11_residuesOf YF fu 1 (nI s1) 550 σ = some (nI 0, σ) := px_residuesOfn h1 q2
    rcases SD_of hI h2 with ⟨p1, p2⟩ | ⟨t2, md2, T2, w, hS2⟩
    · refine ⟨0, σ, σ, fun _ => 0, fun _ => 0, ?_, by omega, fun i hi => by omega, fun i hi => by omega, Fx.rf, fun i hi => by omega, fun i hi => by omega, z7 σ q1, Fx.rf, fun h => by omega⟩
      unfold f_X11_commonResidues
      rw [x1, bnd_some, px_residuesOfn h2 p2, bnd_some, lt_e]
      rfl
    · obtain ⟨τ, y1, y2, y3, y4⟩ := px_residuesOf (fu := fu) hS2 Fx.rf (Or.inr rfl) hfu
      refine ⟨0, τ, τ, fun _ => 0, fun _ => 0, ?_, by omega, fun i hi => by omega, fun i hi => by omega, y3, fun i hi => by omega, fun i hi => by omega, z7 τ (by rw [J_M y3 (by omega) (by omega)]; exact q1), y3, fun h => by omega⟩
      unfold f_X11_commonResidues
      have hl := sd_len hS2
      rw [x1, bnd_some, y1, bnd_some, lt_e, if_neg (i_nlt (by omega) (by omega) (by omega))]
      rfl
  · obtain ⟨τ1, x1, x2, x3, x4⟩ := px_residuesOf (fu := fu) hS1 Fx.rf (Or.inl rfl) hfu
    have hl1 := sd_len hS1
    have hR := Rz_b hS1
    have e1 : ∀ j, j < (PL (Mm.gi σ) s1 t1).length → rsq (Mm.gi σ) s1 T1 ((PL (Mm.gi σ) s1 t1).getD j 0) v = iI (Rz σ s1 t1 T1 v j) := fun j hj => iI_of _
    -- the reference's first row, behind any scratch
    have m1 := fun (ρ : Mm) (hF : Fx CJ σ ρ) => sd_m (fu := fu) (w := v) hS1 hF hS1.2.2.2.1 hfu
    have h97 := fun (ρ : Mm) (hF : Fx CJ σ ρ) => (J_SD hF hS1).2.2.2.2.2.2.2.2
    generalize Rz σ s1 t1 T1 v = R at *
    have ref1 : ∀ ρ, Fx CJ σ ρ → ∃ ρ', f_X12_layBoth YF fu 595 (nI s1) (nI s2) ρ = lbq fu (nI s1) (nI s2) ρ' ∧ Fx CJ σ ρ' ∧ Mm.gi ρ' 595 54 = nI (min (PL (Mm.gi σ) s1 t1).length 7) ∧ ∀ i, i < min (PL (Mm.gi σ) s1 t1).length 7 → Mm.gi ρ' 632 i = iI (R i) := by
      intro ρ hF
      obtain ⟨ρ1, r1, r2, r3, r4, r5, r6⟩ := m1 ρ hF
      generalize (PL (Mm.gi σ) s1 t1).length = l1 at *
      obtain ⟨ρ2, u1, u2, u3, u4⟩ := pm_lb33 (τ := ρ1) (R := R) (b := min l1 7) (fu := fu) (a1 := nI s1) (a2 := nI s2) (by omega) (fun i hi => by rw [(r6 i (by omega)).1, e1 i (by omega)]) (by omega)
      refine ⟨ρ2, ?_, r3.tr (u2.mono (fun o k c => by unfold CJ; omega)), u3, u4⟩
      unfold f_X12_layBoth
      rw [h97 ρ hF, r1, bnd_some, if_neg t10, r4]
      by_cases c : 7 ≤ l1
      · rw [if_pos (show (7 : Int32) ≤ nI l1 from (i_le (a := 7) (by omega) (by omega)).mpr c)]
        rw [show min l1 7 = 7 by omega] at u1
        exact u1
      · rw [if_neg (show ¬ (7 : Int32) ≤ nI l1 from i_nle (a := 7) (by omega) (by omega) (by omega))]
        rw [show min l1 7 = l1 by omega] at u1
        exact u1
    rcases SD_of hI h2 with ⟨p1, p2⟩ | ⟨t2, md2, T2, w, hS2⟩
    · obtain ⟨ρ', u1, u2, u3, u4⟩ := ref1 τ1 x3
      refine ⟨0, τ1, ρ', fun _ => 0, fun _ => 0, ?_, by omega, fun i hi => by omega, fun i hi => by omega, x3, fun i hi => by omega, fun i hi => by omega, ?_, u2, fun h => by omega⟩
      · unfold f_X11_commonResidues
        rw [x1, bnd_some, px_residuesOfn h2 (by rw [x3.gi (by unfold CJ; omega)]; exact p2), bnd_some, lt_e]
        exact congrArg (fun x => some (x, τ1)) (com_none (by omega))
      · rw [u1]
        unfold lbq
        rw [pm_layRestn h2 (by rw [J_M u2 (by omega) (by omega)]; exact p1), bnd_some, if_pos rfl]
        rfl
    · obtain ⟨τ2, y1, y2, y3, y4⟩ := px_residuesOf (fu := fu) hS2 x3 (Or.inr rfl) hfu
      obtain ⟨ρ', u1, u2, u3, u4⟩ := ref1 τ2 y3
      have hl2 := sd_len hS2
      have hSb := Rz_b hS2
      have e2 : ∀ j, j < (PL (Mm.gi σ) s2 t2).length → rsq (Mm.gi σ) s2 T2 ((PL (Mm.gi σ) s2 t2).getD j 0) w = iI (Rz σ s2 t2 T2 w j) := fun j hj => iI_of _
      obtain ⟨ρ2, r1, r2, r3, r4, r5, r6⟩ := sd_m (fu := fu) (w := w) hS2 u2 hS2.2.2.2.1 hfu
      have h7 := (J_SD u2 hS2).2.2.2.2.2.2.2.2
      generalize Rz σ s2 t2 T2 w = S at *
      generalize (PL (Mm.gi σ) s1 t1).length = l1 at *
      generalize (PL (Mm.gi σ) s2 t2).length = l2 at *
      obtain ⟨ρ3, v1, v2, v3, v4⟩ := pm_lb101 (τ := ρ2) (S := S) (b := min (min l2 l1) 7) (fu := fu) (a1 := nI s1) (a2 := nI s2) (by omega) (fun i hi => by rw [(r6 i (by omega)).1, e2 i (by omega)]) (by omega)
      have h54 : Mm.gi ρ2 595 54 = nI (min l1 7) := by rw [r2.gi (by unfold CR; omega)]; exact u3
      refine ⟨min (min l2 l1) 7, τ2, ρ3, R, S, ?_, by omega, fun i hi => hR i (by omega), fun i hi => hSb i (by omega), y3, fun i hi => ?_, fun i hi => by rw [y4 i (by omega), e2 i (by omega)], ?_, r3.tr (v2.mono (fun o k c => by unfold CJ; omega)), fun _ => ⟨v3, fun i hi => ?_, v4⟩⟩
      · unfold f_X11_commonResidues
        rw [x1, bnd_some, y1, bnd_some, lt_e]
        have e : (if nI l2 < nI l1 then nI l2 else nI l1) = nI (min l2 l1) := by
          by_cases c : l2 < l1
          · rw [if_pos ((i_lt (by omega) (by omega)).mpr c), show min l2 l1 = l2 by omega]
          · rw [if_neg (i_nlt (by omega) (by omega) (by omega)), show min l2 l1 = l1 by omega]
        rw [e]
        by_cases c : 7 < min l2 l1
        · rw [if_pos (show (7 : Int32) < nI (min l2 l1) from (i_lt (a := 7) (by omega) (by omega)).mpr c), show min (min l2 l1) 7 = 7 by omega]; rfl
        · rw [if_neg (show ¬ (7 : Int32) < nI (min l2 l1) from i_nlt (a := 7) (by omega) (by omega) (by omega)), show min (min l2 l1) 7 = min l2 l1 by omega]
      · rw [y2.gi (by omega), x4 i (by omega), e1 i (by omega)]
      · rw [u1]
        unfold lbq
        rw [h7, r1, bnd_some, if_neg t10, h54, r4]
        by_cases c : min l1 7 ≤ l2
        · rw [if_pos ((i_le (by omega) (by omega)).mpr c)]
          rw [show min (min l2 l1) 7 = min l1 7 by omega] at v1 ⊢
          exact v1
        · rw [if_neg (i_nle (by omega) (by omega) (by omega))]
          rw [show min (min l2 l1) 7 = l2 by omega] at v1 ⊢
          exact v1
      · rw [v2.gi (by omega), r2.gi (by unfold CR; omega)]
        exact u4 i (by omega)
theorem S_hum {FU : Nat} (hFU : 10100 ≤ FU) : Sim_hum Inv FU := by
  intro a1 a2 σ hI
  unfold f_X11_hum f_X12_hum
  by_cases c1 : 0 ≤ a1.toInt ∧ a1.toInt ≤ 3
  rotate_left
  · exact ⟨-1000000000000000000, σ, σ, by rw [gxs_n c1], by rw [gms_n c1], hI⟩
  by_cases c2 : 0 ≤ a2.toInt ∧ a2.toInt ≤ 3
  rotate_left
  · exact ⟨-1000000000000000000, σ, σ, by rw [gxs_y c1, gxs_n c2], by rw [gms_y c1, gms_n c2], hI⟩
  by_cases c3 : a1 = a2
  · exact ⟨-1000000000000000000, σ, σ, by rw [gxs_y c1, gxs_y c2, if_pos c3], by rw [gms_y c1, gms_y c2, if_pos c3], hI⟩
  rw [gxs_y c1, gxs_y c2, if_neg c3]
  obtain ⟨s1, h1, rfl⟩ := i_in (n := 3) c1.1 c1.2 (by decide)
  obtain ⟨s2, h2, rfl⟩ := i_in (n := 3) c2.1 c2.2 (by decide)
  obtain ⟨m, τ, σ', R, S, b1, b2, b3, b4, b5, b6, b7, b8, b9, b10⟩ := both_of (fu := FU) hI (show s1 < 4 by omega) (show s2 < 4 by omega) (by omega)
  rw [b1, bnd_some]
  by_cases c : 2 ≤ m
  · obtain ⟨d1, d2, d3⟩ := b10 c
    rw [if_pos c] at b8
    refine ⟨lI (sumI (fun i => R i * S i) m), τ, σ', by rw [if_pos (show (2 : Int32) ≤ nI m from (i_le (a := 2) (by omega) (by omega)).mpr c), px_products b2 b3 b4 b6 b7 (by omega), bnd_some], ?_, J_inv hI b9⟩
    have hp := pm_productsBy (num := 0) (fu := FU) b2 d1 b3 b4 d2 d3 (by omega) (by omega)
    have h0 := pvq_0 (R := R) (S := S) (n := m) m 0 (by omega)
    change 0 + pvq R S m m 0 0 0 = _ at h0
    rw [Int.zero_add] at h0
    rw [h0] at hp
    change f_X12_productsBy YF FU 595 0 σ' = _ at hp
    rw [gms_y c1, gms_y c2, if_neg c3, b8, bnd_some, if_neg t10, hp, bnd_some]
  · rw [if_neg c] at b8
    exact ⟨-1000000000000000002, τ, σ', by rw [if_neg (show ¬ (2 : Int32) ≤ nI m from i_nle (a := 2) (by omega) (by omega) (by omega))], by rw [gms_y c1, gms_y c2, if_neg c3, b8, bnd_some, if_pos rfl], J_inv hI b9⟩
theorem fcq_b : ∀ m, m ≤ 7 → fcq m ≤ 5040 := by decide
theorem fcq_1 : fcq 1 = 1 := rfl
theorem S_shuffled {FU : Nat} (hFU : 10100 ≤ FU) : Sim_shuffled Inv FU := by
  intro a1 a2 σ hI
  unfold f_X11_shuffled f_X12_shuffled
  by_cases c1 : 0 ≤ a1.toInt ∧ a1.toInt ≤ 3
  rotate_left
  · exact ⟨-1, σ, σ, by rw [gxs_n c1], by rw [gms_n c1], hI⟩
  by_cases c2 : 0 ≤ a2.toInt ∧ a2.toInt ≤ 3
  rotate_left
  · exact ⟨-1, σ, σ, by rw [gxs_y c1, gxs_n c2], by rw [gms_y c1, gms_n c2], hI⟩
  by_cases c3 : a1 = a2
  · exact ⟨-1, σ, σ, by rw [gxs_y c1, gxs_y c2, if_pos c3], by rw [gms_y c1, gms_y c2, if_pos c3], hI⟩
  rw [gxs_y c1, gxs_y c2, if_neg c3]
  obtain ⟨s1, h1, rfl⟩ := i_in (n := 3) c1.1 c1.2 (by decide)
  obtain ⟨s2, h2, rfl⟩ := i_in (n := 3) c2.1 c2.2 (by decide)
  obtain ⟨m, τ, σ', R, S, b1, b2, b3, b4, b5, b6, b7, b8, b9, b10⟩ := both_of (fu := FU) hI (show s1 < 4 by omega) (show s2 < 4 by omega) (by omega)
  rw [b1, bnd_some]
  by_cases c : 2 ≤ m
  · obtain ⟨d1, d2, d3⟩ := b10 c
    rw [if_pos c] at b8
    refine ⟨_, τ, σ', by rw [if_pos (show (2 : Int32) ≤ nI m from (i_le (a := 2) (by omega) (by omega)).mpr c), px_asGreatOrders b2 b3 b4 b6 b7 (by omega), bnd_some], ?_, J_inv hI b9⟩
    have hp := fun num (h : num < 2 ^ 31) => pm_productsBy (num := num) (fu := FU) b2 d1 b3 b4 d2 d3 h (by omega)
    have h0 := pvq_0 (R := R) (S := S) (n := m) m 0 (by omega)
    change 0 + pvq R S m m 0 0 0 = _ at h0
    rw [Int.zero_add] at h0
    have hz := hp 0 (by omega)
    rw [h0] at hz
    change f_X12_productsBy YF FU 595 0 σ' = _ at hz
    have bS := sumI_b (f := fun i => R i * S i) (B := 1003402890000) (n := m) (fun i hi => mul_b (b3 i hi) (b4 i hi))
    have hfc := fcq_b m b2
    have bP : ∀ d k u num, k + d = m → frq u m = d → (pvq R S m d k u num).natAbs ≤ d * 1003402890000 := by
      intro d
      induction d with
      | zero => intro k u num _ _; simp [pvq]
      | succ d ih =>
        intro k u num hk hfr
        have hw : num % (d + 1) < d + 1 := Nat.mod_lt _ (Nat.succ_pos d)
        obtain ⟨j1, j2, j3⟩ := nthq_p (u := u) (w := num % (d + 1)) (n := m) (by omega)
        have ho := frq_or j2 m
        rw [if_pos j1] at ho
        rw [pvq_s]
        have h1 := mul_b (b3 k (by omega)) (b4 _ j1)
        have h2 := ih (k + 1) (u ||| 2 ^ nthq u (num % (d + 1)) m) (num / (d + 1)) (by omega) (by omega)
        rw [Nat.add_mul]
        omega
    generalize hG : sumI (fun i => R i * S i) m = G at *
    have kx := lp_ind (f := s_X12_shuffled_71 YF FU 595 (nI s1) (nI s2)) (a := fun _ _ _ _ _ => none) (fun d K => ∀ j, j + d = fcq m → K (nI (fcq m)) (lI G) (nI (cntq (fun num => decide (G ≤ pvq R S m m 0 0 num)) j)) (nI j) σ' = some (nI (cntq (fun num => decide (G ≤ pvq R S m m 0 0 num)) (fcq m)), σ')) (by
      intro d K ih j hj
      unfold s_X12_shuffled_71 b_X12_shuffled_96
      by_cases h : fcq m ≤ j
      · have : j = fcq m := by omega
        rw [if_pos ((i_le (by omega) (by omega)).mpr h), this]
      · have hnx := ih (d - 1) (by omega) (j + 1) (by omega)
        rw [cntq_s] at hnx
        have hb := bP m 0 0 j (by omega) (frq_0 m)
        rw [if_neg (i_nle (by omega) (by omega) (by omega)), hp j (by omega), bnd_some]
        by_cases q : G ≤ pvq R S m m 0 0 j
        · rw [if_pos (decide_eq_true q)] at hnx
          rw [if_neg (by rw [lI_lt (by omega) (by omega) (by omega) (by omega)]; omega), lt_e, lt_e, show nI j + 1 = nI (j + 1) from nI_add j 1, show nI (cntq (fun num => decide (G ≤ pvq R S m m 0 0 num)) j) + 1 = nI (cntq (fun num => decide (G ≤ pvq R S m m 0 0 num)) j + 1) from nI_add _ 1]
          exact hnx
        · rw [if_neg (fun e => q (of_decide_eq_true e)), Nat.add_zero] at hnx
          rw [if_pos (by rw [lI_lt (by omega) (by omega) (by omega) (by omega)]; omega), lt_e, lt_e, Int32.add_zero, show nI j + 1 = nI (j + 1) from nI_add j 1]
          exact hnx) FU (fcq m) (by omega) 0 (by omega)
    have km := lp_ind (f := s_X12_shuffled_38 YF FU 595 (nI s1) (nI s2)) (a := fun _ _ _ => none) (fun d K => ∀ j, j + d = m + 1 → 2 ≤ j → K (nI (fcq (j - 1))) (nI j) σ' = some (nI (cntq (fun num => decide (G ≤ pvq R S m m 0 0 num)) (fcq m)), σ')) (by
      intro d K ih j hj hj2
      unfold s_X12_shuffled_38
      rw [d1]
      by_cases h : m < j
      · have : j - 1 = m := by omega
        rw [if_pos ((i_lt (by omega) (by omega)).mpr h), hz, bnd_some, this]
        exact kx
      · have hfj : fcq j = j * fcq (j - 1) := by
          obtain ⟨i, rfl⟩ : ∃ i, j = i + 1 := ⟨j - 1, by omega⟩
          rfl
        rw [if_neg (i_nlt (by omega) (by omega) (by omega)), lt_e, lt_e, i_mul, show nI j + 1 = nI (j + 1) from nI_add j 1, Nat.mul_comm, ← hfj]
        exact ih (d - 1) (by omega) (j + 1) (by omega) (by omega)) FU (m - 1) (by omega) 2 (by omega) (by omega)
    rw [gms_y c1, gms_y c2, if_neg c3, b8, bnd_some, if_neg t10]
    exact km
  · rw [if_neg c] at b8
    exact ⟨-2, τ, σ', by rw [if_neg (show ¬ (2 : Int32) ≤ nI m from i_nle (a := 2) (by omega) (by omega) (by omega))], by rw [gms_y c1, gms_y c2, if_neg c3, b8, bnd_some, if_pos rfl], J_inv hI b9⟩
