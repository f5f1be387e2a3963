/-! count -/
def sum32 (f : Nat → Int32) : Nat → Int32
  | 0 => 0
  | n + 1 => sum32 f n + f n
theorem J_lay {σ σ' : Mm} (q2 : Fx (fun a b => (a = 595 ∧ b = 22) ∨ a = 614) σ σ') : Fx CJ σ σ' := q2.mono (fun o k c => by unfold CJ; omega)
theorem px_counting {σ : Mm} {fu : Nat} (hfu : 10 < fu) : f_X11_countingArrivals YF fu 1 σ = some (sum32 (fun s => Mm.gi σ (555 + 10 * s) 3) 4, σ) := by
  have key := lp_ind (f := s_X11_countingArrivals_4 YF fu 1) (a := fun _ _ _ => none) (fun d k => ∀ j, j + d = 4 → k (sum32 (fun s => Mm.gi σ (555 + 10 * s) 3) j) (nI j) σ = some (sum32 (fun s => Mm.gi σ (555 + 10 * s) 3) 4, σ)) (by
    intro d k ih j hj
    unfold s_X11_countingArrivals_4
    by_cases h : j = 4
    · subst h; rw [if_pos (by decide)]
    · rw [if_neg (show ¬ (4 : Int32) ≤ nI j from i_nle (a := 4) (by omega) (by omega) (by omega)), if_pos (inb_y (by omega) (by omega)), lt_e, lt_e, ix_nI (by omega), i_lit 1, nI_add]
      exact ih (d - 1) (by omega) (j + 1) (by omega)) fu 4 (by omega)
  exact key 0 (by omega)
theorem pm_counting {σ : Mm} {fu : Nat} (hI : Inv σ) (hfu : 30 < fu) : ∃ σ', b_X12_count_34 YF fu 595 0 fu 0 0 σ = some (sum32 (fun s => Mm.gi σ (555 + 10 * s) 3) 4, σ') ∧ Fx CJ σ σ' := by
  have key := lp_ind (f := s_X12_count_34 YF fu 595 0) (a := fun _ _ _ => none) (fun d k => ∀ j τ, j + d = 4 → Fx CJ σ τ → ∃ σ', k (sum32 (fun s => Mm.gi σ (555 + 10 * s) 3) j) (nI j) τ = some (sum32 (fun s => Mm.gi σ (555 + 10 * s) 3) 4, σ') ∧ Fx CJ σ σ') (by
    intro d k ih j τ hj hF
    unfold s_X12_count_34
    by_cases h : j = 4
    · subst h; exact ⟨τ, by rw [if_pos (by decide)], hF⟩
    · obtain ⟨t, h1, h2⟩ := (J_inv hI hF).1 j (by omega)
      obtain ⟨τ', q1, q2, q3, q4⟩ := pm_layCounts (fu := fu) (σ := τ) (s := j) (t := t) (by omega) h1.1 h1.2.1 (by have := h1.1; omega)
      change Mm.gi τ' 595 22 = nI (PL (Mm.gi τ) j t).length at q3
      have e : Mm.gi τ' 595 22 = Mm.gi σ (555 + 10 * j) 3 := by rw [q3, ← h2.1, hF.gi (by unfold CJ; omega)]
      rw [if_neg (show ¬ (4 : Int32) ≤ nI j from i_nle (a := 4) (by omega) (by omega) (by omega)), q1, bn1_some, lt_e, lt_e, e, i_lit 1, nI_add]
      exact ih (d - 1) (by omega) (j + 1) τ' (by omega) (hF.tr (J_lay q2))) fu 4 (by omega)
  exact key 0 σ (by omega) Fx.rf
theorem px_standing {σ : Mm} {fu : Nat} (hI : Inv σ) (hfu : 10 < fu) : f_X11_standingModels YF fu 1 σ = some (sum32 (fun s => Mm.gi σ 603 s) 4, σ) := by
  have key := lp_ind (f := s_X11_standingModels_4 YF fu 1) (a := fun _ _ _ => none) (fun d k => ∀ j, j + d = 4 → k (sum32 (fun s => Mm.gi σ 603 s) j) (nI j) σ = some (sum32 (fun s => Mm.gi σ 603 s) 4, σ)) (by
    intro d k ih j hj
    unfold s_X11_standingModels_4
    by_cases h : j = 4
    · subst h; rw [if_pos (by decide)]
    · have hn := ih (d - 1) (by omega) (j + 1) (by omega)
      rw [show sum32 (fun s => Mm.gi σ 603 s) (j + 1) = sum32 (fun s => Mm.gi σ 603 s) j + Mm.gi σ 603 j from rfl] at hn
      rw [if_neg (show ¬ (4 : Int32) ≤ nI j from i_nle (a := 4) (by omega) (by omega) (by omega)), if_pos (inb_y (by omega) (by omega)), ix_nI (by omega)]
      unfold b_X11_standingModels_24
      rcases IM_one hI.2.2.2.1 (show j < 4 by omega) with ⟨q1, q2⟩ | ⟨q1, md, T, hM⟩
      · rw [q1, Int32.add_zero] at hn
        rw [px_stands10n q2, bnd_some, if_pos rfl, lt_e, i_lit 1, nI_add]
        exact hn
      · rw [q1] at hn
        rw [px_stands10 hM, bnd_some, if_neg t10, lt_e, lt_e, show nI j + 1 = nI (j + 1) from nI_add j 1]
        exact hn) fu 4 (by omega)
  exact key 0 (by omega)
theorem pm_standing {σ : Mm} {fu : Nat} (hI : Inv σ) (hfu : 10 < fu) : b_X12_count_61 YF fu 595 1 fu 0 0 σ = some (sum32 (fun s => Mm.gi σ 603 s) 4, σ) := by
  have key := lp_ind (f := s_X12_count_61 YF fu 595 1) (a := fun _ _ _ => none) (fun d k => ∀ j, j + d = 4 → k (sum32 (fun s => Mm.gi σ 603 s) j) (nI j) σ = some (sum32 (fun s => Mm.gi σ 603 s) 4, σ)) (by
    intro d k ih j hj
    unfold s_X12_count_61
    by_cases h : j = 4
    · subst h; rw [if_pos (by decide)]
    · have hn := ih (d - 1) (by omega) (j + 1) (by omega)
      rw [show sum32 (fun s => Mm.gi σ 603 s) (j + 1) = sum32 (fun s => Mm.gi σ 603 s) j + Mm.gi σ 603 j from rfl] at hn
      rw [if_neg (show ¬ (4 : Int32) ≤ nI j from i_nle (a := 4) (by omega) (by omega) (by omega)), if_pos (inb_y (by omega) (by omega)), ix_nI (by omega)]
      unfold b_X12_count_81
      rcases IM_one hI.2.2.2.1 (show j < 4 by omega) with ⟨q1, q2⟩ | ⟨q1, md, T, hM⟩
      · rw [q1] at hn
        rw [q1, if_pos rfl, lt_e, lt_e, i_lit 1, nI_add]
        exact hn
      · rw [q1] at hn
        rw [q1, if_neg t10, lt_e, lt_e, show nI j + 1 = nI (j + 1) from nI_add j 1]
        exact hn) fu 4 (by omega)
  exact key 0 (by omega)
theorem S_count {FU : Nat} (hFU : 10100 ≤ FU) : Sim_count Inv FU := by
  intro a1 σ hI
  unfold f_X11_count f_X12_count
  by_cases c0 : a1 = 0
  · subst c0
    obtain ⟨σ', h1, h2⟩ := pm_counting (fu := FU) hI (by omega)
    exact ⟨_, σ, σ', by rw [if_pos rfl, px_counting (by omega), bnd_some], by rw [if_pos rfl]; exact h1, J_inv hI h2⟩
  by_cases c1 : a1 = 1
  · subst c1
    exact ⟨_, σ, σ, by rw [if_neg t10, if_pos rfl, px_standing hI (by omega), bnd_some], by rw [if_neg t10, if_pos rfl]; exact pm_standing hI (by omega), hI⟩
  by_cases c2 : a1 = 2
  · subst c2
    obtain ⟨len, h1, h2, h3, h4⟩ := hI.2.2.1
    exact ⟨nI len, σ, σ, by rw [if_neg (by decide), if_neg (by decide), if_pos rfl, h2], by rw [if_neg (by decide), if_neg (by decide), if_pos rfl, h3], hI⟩
  by_cases c3 : a1 = 3
  · subst c3
    refine ⟨Mm.gi σ 17 3, σ, σ, by rw [if_neg (by decide), if_neg (by decide), if_neg (by decide), if_pos rfl], ?_, hI⟩
    rw [if_neg (by decide), if_neg (by decide), if_neg (by decide), if_pos rfl]
    rcases hI.2.2.2.2 with ⟨h1, h2, h3⟩ | ⟨h1, h2, h3, h4⟩ | ⟨h1, h2, h3, n, w, h⟩
    · rw [h1, if_neg (by decide), h3]
    · rw [h1, if_neg (by decide), h4]
    · rw [h1, if_pos rfl, h.2.2.2.2.2.1, h.2.2.2.2.2.2.1]
  · exact ⟨-1, σ, σ, by rw [if_neg c0, if_neg c1, if_neg c2, if_neg c3], by rw [if_neg c0, if_neg c1, if_neg c2, if_neg c3], hI⟩
/-! sure -/
theorem IW_y {σ : Mm} (h : IW σ) (c : Mm.gi σ 595 32 = 1) : Mm.gi σ 17 0 = 1 ∧ Mm.gi σ 17 1 = 0 ∧ ∃ n w, WY σ n w := by
  rcases h with ⟨h1, -⟩ | ⟨h1, -⟩ | ⟨-, h⟩
  · rw [h1] at c; exact absurd c (by decide)
  · rw [h1] at c; exact absurd c (by decide)
  · exact h
theorem px_countOf {σ : Mm} {i k : Nat} (hi : i < 500) (hk : k < 24) : f_X0_countOf YF 17 (nI i) (nI k) σ = some (Mm.gi σ 24 (24 * i + k), σ) := by
  unfold f_X0_countOf
  rw [i_lit 24, i_mul, nI_add, Nat.mul_comm, if_pos (inb_y (by omega) (by omega)), ix_nI (by omega)]
theorem S_sure {FU : Nat} (hFU : 10100 ≤ FU) : Sim_sure Inv FU := by
  intro a1 σ hI
  unfold f_X11_sure f_X12_sure
  by_cases c1 : 0 ≤ a1.toInt ∧ a1.toInt ≤ 23
  · obtain ⟨p, hp, rfl⟩ := i_in (n := 23) c1.1 c1.2 (by decide)
    have hst := px_stands hI.2.2.2.2
    rw [gxp_y c1]
    by_cases c2 : Mm.gi σ 595 32 = 1
    · obtain ⟨-, -, n, w, w1, w2, w3, w4, w5, w6, w7, w8, w9⟩ := IW_y hI.2.2.2.2 c2
      rw [if_pos c2] at hst
      rw [hst, bnd_some, if_neg t10, w4]
      by_cases c3 : p < n
      · rw [if_pos ((i_lt (by omega) (by omega)).mpr c3)]
        have hW : ∀ i, i < w → Mm.gi σ 24 (24 * i + p) = Mm.gi σ 620 (24 * i + p) := fun i hi => ((w9 i hi).1 p c3).1
        generalize hV : (fun i => Mm.gi σ 620 (24 * i + p)) = V
        have eV : ∀ i, Mm.gi σ 620 (24 * i + p) = V i := fun i => by rw [← hV]
        simp only [eV] at hW
        have eV0 : Mm.gi σ 620 p = V 0 := by rw [← eV 0, Nat.mul_zero, Nat.zero_add]
        have xc : ∀ i, i < w → f_X0_countOf YF 17 (nI i) (nI p) σ = some (V i, σ) := fun i hi => by rw [px_countOf (by omega) (by omega), hW i hi]
        have xidx : ∀ i, 24 * nI i + nI p = nI (24 * i + p) := fun i => by rw [i_lit 24, i_mul, nI_add]
        by_cases c4 : w = 0
        · subst c4
          refine ⟨-4, σ, σ, ?_, ?_, hI⟩
          · obtain ⟨f, rfl⟩ : ∃ f, FU = f + 1 := ⟨FU - 1, by omega⟩
            unfold f_X0_oneCount b_X0_oneCount_2
            rw [lp_s]
            unfold s_X0_oneCount_2
            rw [w6, if_pos (show nI 0 ≤ 1 from by decide), if_pos (show nI 0 = 0 from rfl), bnd_some]
          · obtain ⟨f, rfl⟩ : ∃ f, FU = f + 1 := ⟨FU - 1, by omega⟩
            rw [gm_y 0 23 rfl rfl c1, if_pos c2, w5, if_pos ((i_lt (by omega) (by omega)).mpr c3), w7, if_pos (show nI 0 ≤ 0 from by decide)]
            unfold b_X12_sure_45 b_X12_sure_48
            rw [lp_s]
            unfold s_X12_sure_48
            rw [w7, if_pos (show nI 0 ≤ 1 from by decide), if_pos rfl]
        have ms : ∀ (R : Int32), lp (s_X12_sure_48 YF FU 595 (nI p)) (fun _ _ _ => none) FU 1 (nI 1) σ = some (R, σ) → (bnd (f_X12_in YF (Int32.toInt64 (nI p)) 0 23 σ) (fun (r_3 : Int32) (σ_2 : Mm) => if r_3 = 0 then some ((-1), σ_2) else if (Mm.gi σ_2 595 32) = 1 then if (nI p) < (Mm.gi σ_2 595 34) then if (Mm.gi σ_2 595 33) ≤ 0 then b_X12_sure_45 YF FU 595 (nI p) 0 σ_2 else b_X12_sure_45 YF FU 595 (nI p) 1 σ_2 else some ((-2), σ_2) else some ((-2), σ_2))) = some (R, σ) := by
          intro R h
          rw [gm_y 0 23 rfl rfl c1, if_pos c2, w5, if_pos ((i_lt (by omega) (by omega)).mpr c3), w7, if_neg (nI_nle (by omega) (by omega))]
          exact h
        by_cases c5 : ∀ j, j < w → V j = V 0
        · refine ⟨V 0, σ, σ, ?_, ms _ ?_, hI⟩
          · have kx := lp_ind (f := s_X0_oneCount_2 YF FU 17 (nI p)) (a := fun _ _ => none) (fun d k => ∀ i, i + d = w → k (nI i) σ = some (V 0, σ)) (by
              intro d k ih i hi
              unfold s_X0_oneCount_2
              rw [w6]
              by_cases h : w ≤ i
              · have x0 := xc 0 (by omega)
                change f_X0_countOf YF 17 0 (nI p) σ = _ at x0
                rw [if_pos ((i_le (by omega) (by omega)).mpr h), if_neg (nI_ne0 (by omega) (by omega)), x0, bnd_some]
              · have x0 := xc 0 (by omega)
                change f_X0_countOf YF 17 0 (nI p) σ = _ at x0
                rw [if_neg (i_nle (by omega) (by omega) (by omega)), xc i (by omega), bnd_some, x0, bnd_some, if_pos (c5 i (by omega)), lt_e, i_lit 1, nI_add]
                exact ih (d - 1) (by omega) (i + 1) (by omega)) FU (w - 1) (by omega) 1 (by omega)
            unfold f_X0_oneCount
            change bnd (lp (s_X0_oneCount_2 YF FU 17 (nI p)) (fun _ _ => none) FU (nI 1) σ) _ = _
            rw [kx, bnd_some]
          · exact lp_ind (f := s_X12_sure_48 YF FU 595 (nI p)) (a := fun _ _ _ => none) (fun d k => ∀ i, i + d = w → k 1 (nI i) σ = some (V 0, σ)) (by
              intro d k ih i hi
              unfold s_X12_sure_48
              rw [w7]
              by_cases h : w ≤ i
              · rw [if_pos ((i_le (by omega) (by omega)).mpr h), if_neg t10, if_pos (inb_y (by omega) (by omega)), ix_nI (by omega), eV0]
              · rw [if_neg (i_nle (by omega) (by omega) (by omega)), if_neg t10, xidx, if_pos (inb_y (by omega) (by omega)), if_pos (inb_y (by omega) (by omega)), ix_nI (by omega), ix_nI (by omega), eV, eV0, if_pos (c5 i (by omega))]
                unfold b_X12_sure_85
                rw [lt_e, show nI i + 1 = nI (i + 1) from nI_add i 1]
                exact ih (d - 1) (by omega) (i + 1) (by omega)) FU (w - 1) (by omega) 1 (by omega)
        · obtain ⟨j0, hj0, hne⟩ : ∃ j, j < w ∧ V j ≠ V 0 := by
            refine Classical.byContradiction (fun hno => c5 (fun j hj => Classical.byContradiction (fun hn => hno ⟨j, hj, hn⟩)))
          have hj1 : 1 ≤ j0 := by
            rcases Nat.eq_zero_or_pos j0 with e | e
            · subst e; exact absurd rfl hne
            · exact e
          refine ⟨-4, σ, σ, ?_, ms _ ?_, hI⟩
          · have kx := lp_ind (f := s_X0_oneCount_2 YF FU 17 (nI p)) (a := fun _ _ => none) (fun d k => ∀ i, i + d = j0 → k (nI i) σ = some (-4, σ)) (by
              intro d k ih i hi
              have x0 := xc 0 (by omega)
              change f_X0_countOf YF 17 0 (nI p) σ = _ at x0
              unfold s_X0_oneCount_2
              rw [w6, if_neg (i_nle (by omega) (by omega) (by omega)), xc i (by omega), bnd_some, x0, bnd_some]
              by_cases h : V i = V 0
              · rw [if_pos h, lt_e, i_lit 1, nI_add]
                have : i ≠ j0 := fun e => hne (by rw [← e]; exact h)
                exact ih (d - 1) (by omega) (i + 1) (by omega)
              · rw [if_neg h]) FU (j0 - 1) (by omega) 1 (by omega)
            unfold f_X0_oneCount
            change bnd (lp (s_X0_oneCount_2 YF FU 17 (nI p)) (fun _ _ => none) FU (nI 1) σ) _ = _
            rw [kx, bnd_some]
          · exact (lp_ind (f := s_X12_sure_48 YF FU 595 (nI p)) (a := fun _ _ _ => none) (fun d k => ∀ i, i + d = w → k 0 (nI i) σ = some (-4, σ) ∧ (i ≤ j0 → k 1 (nI i) σ = some (-4, σ))) (by
              intro d k ih i hi
              refine ⟨?_, fun hij => ?_⟩
              · unfold s_X12_sure_48
                rw [w7]
                by_cases h : w ≤ i
                · rw [if_pos ((i_le (by omega) (by omega)).mpr h), if_pos rfl]
                · rw [if_neg (i_nle (by omega) (by omega) (by omega)), if_pos rfl]
                  unfold b_X12_sure_84 b_X12_sure_85
                  rw [lt_e, show nI i + 1 = nI (i + 1) from nI_add i 1]
                  exact (ih (d - 1) (by omega) (i + 1) (by omega)).1
              · unfold s_X12_sure_48
                rw [w7, if_neg (i_nle (by omega) (by omega) (by omega)), if_neg t10, xidx, if_pos (inb_y (by omega) (by omega)), if_pos (inb_y (by omega) (by omega)), ix_nI (by omega), ix_nI (by omega), eV, eV0]
                by_cases h : V i = V 0
                · have : i ≠ j0 := fun e => hne (by rw [← e]; exact h)
                  rw [if_pos h]
                  unfold b_X12_sure_85
                  rw [lt_e, show nI i + 1 = nI (i + 1) from nI_add i 1]
                  exact (ih (d - 1) (by omega) (i + 1) (by omega)).2 (by omega)
                · rw [if_neg h]
                  unfold b_X12_sure_84 b_X12_sure_85
                  rw [lt_e, show nI i + 1 = nI (i + 1) from nI_add i 1]
                  exact (ih (d - 1) (by omega) (i + 1) (by omega)).1) FU (w - 1) (by omega) 1 (by omega)).2 hj1
      · have c3' : ¬ nI p < nI n := i_nlt (by omega) (by omega) (by omega)
        exact ⟨-2, σ, σ, by rw [if_neg c3'], by rw [gm_y 0 23 rfl rfl c1, if_pos c2, w5, if_neg c3'], hI⟩
    · rw [if_neg c2] at hst
      exact ⟨-2, σ, σ, by rw [hst, bnd_some, if_pos rfl], by rw [gm_y 0 23 rfl rfl c1, if_neg c2], hI⟩
  · exact ⟨-1, σ, σ, by rw [gxp_n c1], by rw [gm_n 0 23 rfl rfl c1], hI⟩
