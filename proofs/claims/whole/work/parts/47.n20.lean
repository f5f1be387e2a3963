/-! between, loop -/
def flq (G : Nat → List Int) : Nat → List Int
  | 0 => []
  | s + 1 => flq G s ++ G s
theorem flq_len {G : Nat → List Int} (h : ∀ s, s < 4 → (G s).length ≤ 144) : ∀ s, s ≤ 4 → (flq G s).length ≤ 144 * s := by
  intro s
  induction s with
  | zero => intro _; simp [flq]
  | succ s ih =>
    intro hs
    have h1 := ih (by omega)
    have h2 := h s (by omega)
    show (flq G s ++ G s).length ≤ _
    rw [List.length_append]
    omega
theorem flq_bd {G : Nat → List Int} (h : ∀ s, s < 4 → ∀ x, x ∈ G s → x.natAbs ≤ 1000000) : ∀ s, s ≤ 4 → ∀ x, x ∈ flq G s → x.natAbs ≤ 1000000 := by
  intro s
  induction s with
  | zero => intro _ x hx; simp [flq] at hx
  | succ s ih =>
    intro hs x hx
    have hx : x ∈ flq G s ++ G s := hx
    rw [List.mem_append] at hx
    rcases hx with hx | hx
    · exact ih (by omega) x hx
    · exact h s (by omega) x hx
theorem getD_mem {l : List Int} {k : Nat} (h : k < l.length) : l.getD k 0 ∈ l := by
  rw [List.getD_eq_getElem?_getD, List.getElem?_eq_getElem h]
  exact List.getElem_mem h
/-- the rest of between in the reference -/
def mbq (fu : Nat) (i j : Int32) (τ : Mm) : Option (Int32 × Mm) := bn1 (f_X12_layPairs YF fu 595 i j τ) (fun (σ_8 : Mm) => if (Mm.gi σ_8 595 56) = 0 then some ((-10000002), σ_8) else bnd (f_X12_middle YF fu 595 σ_8) (fun (r_11 : Int32) (σ_10 : Mm) => some (r_11, σ_10)))
theorem mid_of {σ : Mm} {fu : Nat} {i j : Int32} (hI : Inv σ) (hij : i ≠ j) (hfu : 10050 < fu) : ∃ r, (∀ τ, Fx CJ σ τ → ∃ τ', f_X11_middleGap YF fu 1 i j τ = some (r, τ') ∧ Fx CJ σ τ') ∧ ∀ τ, Fx CJ σ τ → ∃ τ', mbq fu i j τ = some (r, τ') ∧ Fx CJ σ τ' := by
  have hex : ∀ s : Nat, ∃ G : List Int, s < 4 → StarQ σ fu s i j G := by
    intro s
    by_cases hs : s < 4
    · rcases SD_of hI hs with ⟨q1, q2⟩ | ⟨t, md, T, v, hS⟩
      · exact ⟨[], fun _ => star_none hs q1 q2⟩
      · obtain ⟨G, hG⟩ := star_some (fu := fu) hS hij hfu
        exact ⟨G, fun _ => hG⟩
    · exact ⟨[], fun h => absurd h hs⟩
  obtain ⟨G, hG⟩ := Classical.skolem.mp hex
  have hlen := flq_len (G := G) (fun s hs => (hG s hs).1)
  have hbd := flq_bd (G := G) (fun s hs => (hG s hs).2.1) 4 (Nat.le_refl _)
  have hl4 := hlen 4 (Nat.le_refl _)
  have cls : ∀ τ, Fx CJ σ τ → ∃ τ', f_X11_middleGap YF fu 1 i j τ = (if Mm.gi τ' 553 1 = 0 then some (-10000002, τ') else bnd (f_X2_middle YF fu 553 τ') (fun (r_11 : Int32) (σ_10 : Mm) => some (r_11, σ_10))) ∧ Fx CJ σ τ' ∧ GX τ' (flq G 4) := by
    intro τ hF
    unfold f_X11_middleGap f_X2_empty
    rw [lt_e, bn1_some]
    exact lp_ind (f := s_X11_middleGap_9 YF fu 1 i j) (a := fun _ _ => none) (fun d K => ∀ s ρ, s + d = 4 → Fx CJ σ ρ → GX ρ (flq G s) → ∃ τ', K (nI s) ρ = (if Mm.gi τ' 553 1 = 0 then some (-10000002, τ') else bnd (f_X2_middle YF fu 553 τ') (fun (r_11 : Int32) (σ_10 : Mm) => some (r_11, σ_10))) ∧ Fx CJ σ τ' ∧ GX τ' (flq G 4)) (by
      intro d K ih s ρ hs hJ hQ
      by_cases h : s = 4
      · subst h
        refine ⟨ρ, ?_, hJ, hQ⟩
        unfold s_X11_middleGap_9
        rw [if_pos (by decide)]
      · have h1 := hlen s (by omega)
        obtain ⟨ρ', u1, u2, u3⟩ := (hG s (by omega)).2.2.1 ρ (flq G s) K hJ hQ (by omega)
        rw [u1]
        exact ih (d - 1) (by omega) (s + 1) ρ' (by omega) u2 u3) fu 4 (by omega) 0 _ (by omega) (hF.tr (Fx.si (by unfold CJ; omega))) ⟨by rw [gi_s]; rfl, fun k hk => by simp [flq] at hk⟩
  have ref : ∀ τ, Fx CJ σ τ → ∃ τ', f_X12_layPairs YF fu 595 i j τ = some τ' ∧ Fx CJ σ τ' ∧ GM τ' (flq G 4) := by
    intro τ hF
    unfold f_X12_layPairs
    rw [lt_e]
    exact lp_ind (f := s_X12_layPairs_7 YF fu 595 i j) (a := fun _ _ => none) (fun d K => ∀ s ρ, s + d = 4 → Fx CJ σ ρ → GM ρ (flq G s) → ∃ τ', K (nI s) ρ = some τ' ∧ Fx CJ σ τ' ∧ GM τ' (flq G 4)) (by
      intro d K ih s ρ hs hJ hQ
      by_cases h : s = 4
      · subst h
        refine ⟨ρ, ?_, hJ, hQ⟩
        unfold s_X12_layPairs_7
        rw [if_pos (by decide)]
      · have h1 := hlen s (by omega)
        obtain ⟨ρ', u1, u2, u3⟩ := (hG s (by omega)).2.2.2 ρ (flq G s) K hJ hQ (by omega)
        rw [u1]
        exact ih (d - 1) (by omega) (s + 1) ρ' (by omega) u2 u3) fu 4 (by omega) 0 _ (by omega) (hF.tr (Fx.si (by unfold CJ; omega))) ⟨by rw [gi_s]; rfl, fun k hk => by simp [flq] at hk⟩
  generalize flq G 4 = Q at *
  by_cases h0 : Q.length = 0
  · refine ⟨-10000002, fun τ hF => ?_, fun τ hF => ?_⟩
    · obtain ⟨τ', u1, u2, u3⟩ := cls τ hF
      exact ⟨τ', by rw [u1, u3.1, h0, if_pos (by decide)], u2⟩
    · obtain ⟨τ', u1, u2, u3⟩ := ref τ hF
      refine ⟨τ', ?_, u2⟩
      unfold mbq
      rw [u1, bn1_some, u3.1, h0, if_pos (by decide)]
  · have hz : ∀ k, k < Q.length → (Q.getD k 0).natAbs ≤ 1000000 := fun k hk => hbd _ (getD_mem hk)
    obtain ⟨τ0, -, -, g0⟩ := cls σ Fx.rf
    obtain ⟨v, -, hv, -⟩ := px_middle (Z := fun k => Q.getD k 0) (fu := fu) (show 0 < Q.length by omega) (by omega) g0.1 g0.2 hz (by omega)
    refine ⟨iI v, fun τ hF => ?_, fun τ hF => ?_⟩
    · obtain ⟨τ', u1, u2, u3⟩ := cls τ hF
      obtain ⟨v', w1, w2, -⟩ := px_middle (Z := fun k => Q.getD k 0) (fu := fu) (show 0 < Q.length by omega) (by omega) u3.1 u3.2 hz (by omega)
      refine ⟨τ', ?_, u2⟩
      rw [u1, u3.1, if_neg (nI_ne0 (by omega) (by omega)), w1, bnd_some, mid_u w2 hv]
    · obtain ⟨τ', u1, u2, u3⟩ := ref τ hF
      refine ⟨τ', ?_, u2⟩
      unfold mbq
      rw [u1, bn1_some, u3.1, if_neg (nI_ne0 (by omega) (by omega)), pm_middle (Z := fun k => Q.getD k 0) (show 0 < Q.length by omega) (by omega) u3.1 u3.2 hz hv (by omega), bnd_some]
theorem pm_between {fu : Nat} {i j : Int32} {τ : Mm} (c1 : 0 ≤ i.toInt ∧ i.toInt ≤ 2) (c2 : 0 ≤ j.toInt ∧ j.toInt ≤ 2) (hij : i ≠ j) : f_X12_between YF fu 595 i j τ = mbq fu i j τ := by
  unfold f_X12_between
  rw [gmi_y c1, gmi_y c2, if_neg hij]
  rfl
theorem S_between {FU : Nat} (hFU : 10100 ≤ FU) : Sim_between Inv FU := by
  intro a1 a2 σ hI
  unfold f_X11_between
  by_cases c1 : 0 ≤ a1.toInt ∧ a1.toInt ≤ 2
  rotate_left
  · exact ⟨-10000000, σ, σ, by rw [gxi_n c1], by unfold f_X12_between; rw [gmi_n c1], hI⟩
  by_cases c2 : 0 ≤ a2.toInt ∧ a2.toInt ≤ 2
  rotate_left
  · exact ⟨-10000000, σ, σ, by rw [gxi_y c1, gxi_n c2], by unfold f_X12_between; rw [gmi_y c1, gmi_n c2], hI⟩
  by_cases c3 : a1 = a2
  · exact ⟨-10000000, σ, σ, by rw [gxi_y c1, gxi_y c2, if_pos c3], by unfold f_X12_between; rw [gmi_y c1, gmi_y c2, if_pos c3], hI⟩
  obtain ⟨r, h1, h2⟩ := mid_of (fu := FU) hI c3 (by omega)
  obtain ⟨τ, u1, u2⟩ := h1 σ Fx.rf
  obtain ⟨σ', v1, v2⟩ := h2 τ u2
  exact ⟨r, τ, σ', by rw [gxi_y c1, gxi_y c2, if_neg c3, u1, bnd_some], by rw [pm_between c1 c2 c3, v1], J_inv hI v2⟩
theorem S_loop {FU : Nat} (hFU : 10100 ≤ FU) : Sim_loop Inv FU := by
  intro a1 a2 a3 σ hI
  unfold f_X11_loop f_X12_loop
  by_cases c1 : 0 ≤ a1.toInt ∧ a1.toInt ≤ 2
  rotate_left
  · exact ⟨-10000000, σ, σ, by rw [gxi_n c1], by rw [gmi_n c1], hI⟩
  by_cases c2 : 0 ≤ a2.toInt ∧ a2.toInt ≤ 2
  rotate_left
  · exact ⟨-10000000, σ, σ, by rw [gxi_y c1, gxi_n c2], by rw [gmi_y c1, gmi_n c2], hI⟩
  by_cases c3 : 0 ≤ a3.toInt ∧ a3.toInt ≤ 2
  rotate_left
  · exact ⟨-10000000, σ, σ, by rw [gxi_y c1, gxi_y c2, gxi_n c3], by rw [gmi_y c1, gmi_y c2, gmi_n c3], hI⟩
  by_cases e1 : a1 = a2
  · exact ⟨-10000000, σ, σ, by rw [gxi_y c1, gxi_y c2, gxi_y c3, if_pos e1], by rw [gmi_y c1, gmi_y c2, gmi_y c3, if_pos e1], hI⟩
  by_cases e2 : a2 = a3
  · exact ⟨-10000000, σ, σ, by rw [gxi_y c1, gxi_y c2, gxi_y c3, if_neg e1, if_pos e2], by rw [gmi_y c1, gmi_y c2, gmi_y c3, if_neg e1, if_pos e2], hI⟩
  by_cases e3 : a1 = a3
  · exact ⟨-10000000, σ, σ, by rw [gxi_y c1, gxi_y c2, gxi_y c3, if_neg e1, if_neg e2, if_pos e3], by rw [gmi_y c1, gmi_y c2, gmi_y c3, if_neg e1, if_neg e2, if_pos e3], hI⟩
  obtain ⟨r1, x1, m1⟩ := mid_of (fu := FU) hI e1 (by omega)
  obtain ⟨r2, x2, m2⟩ := mid_of (fu := FU) hI e2 (by omega)
  obtain ⟨r3, x3, m3⟩ := mid_of (fu := FU) hI e3 (by omega)
  obtain ⟨τ1, u1, v1⟩ := x1 σ Fx.rf
  obtain ⟨τ2, u2, v2⟩ := x2 τ1 v1
  obtain ⟨τ3, u3, v3⟩ := x3 τ2 v2
  obtain ⟨τ4, u4, v4⟩ := m1 τ3 v3
  obtain ⟨τ5, u5, v5⟩ := m2 τ4 v4
  obtain ⟨τ6, u6, v6⟩ := m3 τ5 v5
  rw [gxi_y c1, gxi_y c2, gxi_y c3, if_neg e1, if_neg e2, if_neg e3, u1, bnd_some, u2, bnd_some, u3, bnd_some]
  have hm : ∀ τ, (bnd (f_X12_isTool YF a1 τ) (fun (r_3 : Int32) (σ_2 : Mm) => if r_3 = 0 then some ((-10000000), σ_2) else bnd (f_X12_isTool YF a2 σ_2) (fun (r_6 : Int32) (σ_5 : Mm) => if r_6 = 0 then some ((-10000000), σ_5) else bnd (f_X12_isTool YF a3 σ_5) (fun (r_9 : Int32) (σ_8 : Mm) => if r_9 = 0 then some ((-10000000), σ_8) else if a1 = a2 then some ((-10000000), σ_8) else if a2 = a3 then some ((-10000000), σ_8) else if a1 = a3 then some ((-10000000), σ_8) else bnd (f_X12_between YF FU 595 a1 a2 σ_8) (fun (r_12 : Int32) (σ_11 : Mm) => bnd (f_X12_between YF FU 595 a2 a3 σ_11) (fun (r_15 : Int32) (σ_14 : Mm) => bnd (f_X12_between YF FU 595 a1 a3 σ_14) (fun (r_18 : Int32) (σ_17 : Mm) => if r_12 = (-10000002) then some ((-10000002), σ_17) else if r_15 = (-10000002) then some ((-10000002), σ_17) else if r_18 = (-10000002) then some ((-10000002), σ_17) else some (((r_12 + r_15) - r_18), σ_17))))))) : Option (Int32 × Mm)) = bnd (f_X12_between YF FU 595 a1 a2 τ) (fun (r_12 : Int32) (σ_11 : Mm) => bnd (f_X12_between YF FU 595 a2 a3 σ_11) (fun (r_15 : Int32) (σ_14 : Mm) => bnd (f_X12_between YF FU 595 a1 a3 σ_14) (fun (r_18 : Int32) (σ_17 : Mm) => if r_12 = (-10000002) then some ((-10000002), σ_17) else if r_15 = (-10000002) then some ((-10000002), σ_17) else if r_18 = (-10000002) then some ((-10000002), σ_17) else some (((r_12 + r_15) - r_18), σ_17)))) := fun τ => by
    rw [gmi_y c1, gmi_y c2, gmi_y c3, if_neg e1, if_neg e2, if_neg e3]
  by_cases d1 : r1 = -10000002
  · exact ⟨-10000002, τ3, τ6, by rw [if_pos d1], by rw [hm, pm_between c1 c2 e1, u4, bnd_some, pm_between c2 c3 e2, u5, bnd_some, pm_between c1 c3 e3, u6, bnd_some, if_pos d1], J_inv hI v6⟩
  by_cases d2 : r2 = -10000002
  · exact ⟨-10000002, τ3, τ6, by rw [if_neg d1, if_pos d2], by rw [hm, pm_between c1 c2 e1, u4, bnd_some, pm_between c2 c3 e2, u5, bnd_some, pm_between c1 c3 e3, u6, bnd_some, if_neg d1, if_pos d2], J_inv hI v6⟩
  by_cases d3 : r3 = -10000002
  · exact ⟨-10000002, τ3, τ6, by rw [if_neg d1, if_neg d2, if_pos d3], by rw [hm, pm_between c1 c2 e1, u4, bnd_some, pm_between c2 c3 e2, u5, bnd_some, pm_between c1 c3 e3, u6, bnd_some, if_neg d1, if_neg d2, if_pos d3], J_inv hI v6⟩
  exact ⟨r1 + r2 - r3, τ3, τ6, by rw [if_neg d1, if_neg d2, if_neg d3], by rw [hm, pm_between c1 c2 e1, u4, bnd_some, pm_between c2 c3 e2, u5, bnd_some, pm_between c1 c3 e3, u6, bnd_some, if_neg d1, if_neg d2, if_neg d3], J_inv hI v6⟩
