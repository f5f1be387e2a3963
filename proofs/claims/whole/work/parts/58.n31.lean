/-! ways -/
def tmq (σ : Mm) (s t v k : Nat) : Int := (crq (Mm.gi σ) s ((PL (Mm.gi σ) s t).getD k 0) v).toInt
def erq (σ : Mm) (s t k : Nat) : Int := (Mm.gi σ 598 (24 * s + (PL (Mm.gi σ) s t).getD k 0)).toInt
theorem tm_b {σ : Mm} {s t v : Nat} (hT : IT σ) (h1 : IA1 (Mm.gi σ) s t) (hv : v < 2) : DB (tmq σ s t v) (erq σ s t) (PL (Mm.gi σ) s t).length := by
  intro k hk
  have hp := PL_lt hk
  have b := crq_b hT h1 hp hv
  have e := (h1.2.2.2 _ hp).2.2.2.2.2.1
  unfold rng at e
  unfold tmq erq
  omega
/-- where the class works while it seeks -/
def CZ (a _b : Nat) : Prop := a = 17 ∨ (18 ≤ a ∧ a ≤ 24) ∨ (26 ≤ a ∧ a < 550)
theorem z_A {σ τ : Mm} (h : IA σ) (F : Fx CZ σ τ) : IA τ := IA_fr h (fun o k q => F.gi (by unfold FA at q; unfold CZ; omega))
theorem z_T {σ τ : Mm} (h : IT σ) (F : Fx CZ σ τ) : IT τ := IT_fr h (fun o k q => F.gi (by unfold FT at q; unfold CZ; omega))
theorem z_P {σ τ : Mm} (F : Fx CZ σ τ) (s t : Nat) : PL (Mm.gi τ) s t = PL (Mm.gi σ) s t := IS_pl (fun k => F.gi (by unfold CZ; omega)) (F.gi (by unfold CZ; omega))
theorem z_c {σ τ : Mm} (F : Fx CZ σ τ) (s p v : Nat) : crq (Mm.gi τ) s p v = crq (Mm.gi σ) s p v := crq_cg (fun o k ho => F.gi (by unfold CZ; omega))
section WZ
variable {σ : Mm} {s t v fu : Nat} {a2 a3 : Int32}
/-- the class lays the times it seeks by -/
theorem px_lay (hI : Inv σ) (hs : s < 4) (h1 : IA1 (Mm.gi σ) s t) (h2 : IS1 (Mm.gi σ) s t) (hv : v < 2) (ev : Mm.gi σ 595 7 = nI v) (hfu : 100 < fu) {τ : Mm} (F : Fx CZ σ τ) : ∃ ρ, b_X11_ways_68 YF fu 1 (nI s) a2 a3 fu (nI (PL (Mm.gi σ) s t).length) 0 τ = bnd (f_X0_seek YF fu 17 a2 a3 ρ) (fun (r_24 : Int32) (σ_23 : Mm) => some (r_24, σ_23)) ∧ Fx (fun a _ => a = 18 ∨ a = 19) τ ρ ∧ DX (tmq σ s t v) (erq σ s t) (PL (Mm.gi σ) s t).length ρ := by
  have ht := h1.1
  have hl : (PL (Mm.gi σ) s t).length ≤ 24 := by
    have := plf_len (fun i => Mm.gi σ 600 (24 * s + i)) (Mm.gi σ 595 8) t
    unfold PL; omega
  exact lp_ind (f := s_X11_ways_68 YF fu 1 (nI s) a2 a3) (a := fun _ _ _ => none) (fun d K => ∀ j ρ, j + d = (PL (Mm.gi σ) s t).length → Fx (fun a _ => a = 18 ∨ a = 19) τ ρ → (∀ i, i < j → Mm.gi ρ 18 i = iI (tmq σ s t v i) ∧ Mm.gi ρ 19 i = iI (erq σ s t i)) → ∃ ρ', K (nI (PL (Mm.gi σ) s t).length) (nI j) ρ = bnd (f_X0_seek YF fu 17 a2 a3 ρ') (fun (r_24 : Int32) (σ_23 : Mm) => some (r_24, σ_23)) ∧ Fx (fun a _ => a = 18 ∨ a = 19) τ ρ' ∧ DX (tmq σ s t v) (erq σ s t) (PL (Mm.gi σ) s t).length ρ') (by
    intro d K ih j ρ hj hR hd
    unfold s_X11_ways_68
    by_cases h : (PL (Mm.gi σ) s t).length ≤ j
    · exact ⟨ρ, by rw [if_pos ((i_le (by omega) (by omega)).mpr h)], hR, fun k hk => hd k (by omega)⟩
    · have F2 : Fx CZ σ ρ := F.tr (hR.mono (fun a b c => by unfold CZ; omega))
      have hIT := z_T hI.2.1 F2
      obtain ⟨g1, g2⟩ := IA1_of (z_A hI.1 F2) hs ht (by rw [F2.gi (by unfold CZ; omega)]; exact h1.2.1)
      have eP := z_P F2 s t
      have hk' : j < (PL (Mm.gi ρ) s t).length := by rw [eP]; omega
      have hp := PL_lt (show j < (PL (Mm.gi σ) s t).length by omega)
      have ec := px_corrected hs hIT g1 g2 hk' hv
      have evv := px_value (w := 1) hs g1 g2 hk' (by omega)
      rw [eP] at ec evv
      rw [z_c F2] at ec
      have e22 : Mm.gi ρ 2 2 = nI v := by rw [hIT.1, F2.gi (by unfold CZ; omega)]; exact ev
      have eE : Mm.gi ρ (555 + 10 * s + 1) (4 * (PL (Mm.gi σ) s t).getD j 0 + 1) = Mm.gi σ 598 (24 * s + (PL (Mm.gi σ) s t).getD j 0) := by
        rw [F2.gi (by unfold CZ; omega)]
        exact (h1.2.2.2 _ hp).2.1
      rw [eE] at evv
      change f_X7_value YF (555 + 10 * s) (nI j) 1 ρ = _ at evv
      unfold f_X0_put
      rw [if_neg (i_nle (by omega) (by omega) (by omega)), e22, ec, bnd_some, if_pos (inb_y (by omega) (by omega)), ix_nI (by omega), evv, bnd_some, if_pos (inb_y (by omega) (by omega)), lt_e, if_pos (inb_y (by omega) (by omega)), lt_e, bn1_some, lt_e, ix_nI (by omega), show nI j + 1 = nI (j + 1) from nI_add j 1]
      have S8 : ∀ (τ : Mm) (k : Nat) (v : Int32), Fx (fun a _ => a = 18 ∨ a = 19) τ (Mm.si τ 18 k v) := fun τ k v => Fx.si (Or.inl rfl)
      have S9 : ∀ (τ : Mm) (k : Nat) (v : Int32), Fx (fun a _ => a = 18 ∨ a = 19) τ (Mm.si τ 19 k v) := fun τ k v => Fx.si (Or.inr rfl)
      refine ih (d - 1) (by omega) (j + 1) _ (by omega) ((hR.tr (S8 _ _ _)).tr (S9 _ _ _)) (fun i hi => ?_)
      by_cases e : i = j
      · subst e
        rw [gi_n (by omega), gi_s, gi_s]
        exact ⟨iI_of _, iI_of _⟩
      · rw [gi_n (by omega), gi_n (by omega), gi_n (by omega), gi_n (by omega)]
        exact hd i (by omega)) fu (PL (Mm.gi σ) s t).length (by omega) 0 τ (by omega) Fx.rf (fun i hi => by omega)
/-- the reference goes through, and what it says then -/
def gtq (fu : Nat) (a1 a2 a3 : Int32) (π : Mm) : Option (Int32 × Mm) := bnd (f_X12_goThrough YF fu 595 π) (fun (r_36 : Int32) (σ_35 : Mm) => if r_36 = 0 then b_X12_ways_178 YF fu 595 a1 a2 a3 r_36 2 595 σ_35 else b_X12_ways_178 YF fu 595 a1 a2 a3 r_36 1 595 σ_35)
def FP (a b : Nat) : Prop := (a = 595 ∧ (b = 22 ∨ (32 ≤ b ∧ b ≤ 34))) ∨ a = 614 ∨ (618 ≤ a ∧ a ≤ 630)
theorem pm_lay (hI : Inv σ) (hs : s < 4) (h1 : IA1 (Mm.gi σ) s t) (h2 : IS1 (Mm.gi σ) s t) (hv : v < 2) (ev : Mm.gi σ 595 7 = nI v) (hn2 : 2 ≤ (PL (Mm.gi σ) s t).length) (hfu : 100 < fu) {τ : Mm} (F : Fx CZ σ τ) : ∃ π, bn1 (f_X12_layCounts YF fu 595 (nI s) τ) (fun (σ_11 : Mm) => if 2 ≤ (Mm.gi σ_11 595 22) then lt_ (Mm.si σ_11 595 34 (Mm.gi σ_11 595 22)) (fun (σ_12 : Mm) => b_X12_ways_63 YF fu 595 (nI s) a2 a3 fu 0 σ_12) else some ((-2), σ_11)) = gtq fu (nI s) a2 a3 π ∧ Fx FP τ π ∧ DM (tmq σ s t v) (erq σ s t) (PL (Mm.gi σ) s t).length π ∧ Mm.gi π 595 34 = nI (PL (Mm.gi σ) s t).length ∧ Mm.gi π 595 33 = 0 ∧ Mm.gi π 625 0 = 0 ∧ Mm.gl π 627 0 = Int32.toInt64 a2 ∧ Mm.gl π 628 0 = 1 ∧ Mm.gl π 629 0 = Int32.toInt64 a3 ∧ Mm.gl π 630 0 = 1 := by
  have ht := h1.1
  have hl : (PL (Mm.gi σ) s t).length ≤ 24 := by
    have := plf_len (fun i => Mm.gi σ 600 (24 * s + i)) (Mm.gi σ 595 8) t
    unfold PL; omega
  obtain ⟨τ1, q1, q2, q3, q4⟩ := pm_layCounts (fu := fu) (σ := τ) (s := s) (t := t) hs ht (by rw [F.gi (by unfold CZ; omega)]; exact h1.2.1) (by omega)
  change Mm.gi τ1 595 22 = nI (PL (Mm.gi τ) s t).length at q3
  change ∀ j, j < (PL (Mm.gi τ) s t).length → Mm.gi τ1 614 j = nI (24 * s + (PL (Mm.gi τ) s t).getD j 0) at q4
  rw [z_P F] at q3 q4
  rw [q1, bn1_some, q3, if_pos (show (2 : Int32) ≤ nI (PL (Mm.gi σ) s t).length from (i_le (a := 2) (by omega) (by omega)).mpr hn2), lt_e]
  exact lp_ind (f := s_X12_ways_63 YF fu 595 (nI s) a2 a3) (a := fun _ _ => none) (fun d K => ∀ j ρ, j + d = (PL (Mm.gi σ) s t).length → Fx (fun a b => a = 618 ∨ a = 619) (Mm.si τ1 595 34 (nI (PL (Mm.gi σ) s t).length)) ρ → (∀ i, i < j → Mm.gi ρ 618 i = iI (tmq σ s t v i) ∧ Mm.gi ρ 619 i = iI (erq σ s t i)) → ∃ π, K (nI j) ρ = gtq fu (nI s) a2 a3 π ∧ Fx FP τ π ∧ DM (tmq σ s t v) (erq σ s t) (PL (Mm.gi σ) s t).length π ∧ Mm.gi π 595 34 = nI (PL (Mm.gi σ) s t).length ∧ Mm.gi π 595 33 = 0 ∧ Mm.gi π 625 0 = 0 ∧ Mm.gl π 627 0 = Int32.toInt64 a2 ∧ Mm.gl π 628 0 = 1 ∧ Mm.gl π 629 0 = Int32.toInt64 a3 ∧ Mm.gl π 630 0 = 1) (by
    intro d K ih j ρ hj hR hd
    have F0 : Fx FP τ ρ := ((q2.mono (fun a b c => by unfold FP; omega)).tr (Fx.si (by unfold FP; omega))).tr (hR.mono (fun a b c => by unfold FP; omega))
    have r22 : Mm.gi ρ 595 22 = nI (PL (Mm.gi σ) s t).length := by rw [hR.gi (by omega), gi_n (by omega)]; exact q3
    have r34 : Mm.gi ρ 595 34 = nI (PL (Mm.gi σ) s t).length := by rw [hR.gi (by omega), gi_s]
    unfold s_X12_ways_63
    rw [r22]
    by_cases h : (PL (Mm.gi σ) s t).length ≤ j
    · have x0 : ix 0 = 0 := rfl
      rw [if_pos ((i_le (by omega) (by omega)).mpr h), lt_e, if_pos inb0, lt_e, if_pos inb0, lt_e, if_pos inb0, lt_e, if_pos inb0, lt_e, if_pos inb0, lt_e, x0]
      refine ⟨Mm.sl (Mm.sl (Mm.sl (Mm.sl (Mm.si (Mm.si ρ 595 33 0) 625 0 0) 627 0 (Int32.toInt64 a2)) 628 0 1) 629 0 (Int32.toInt64 a3)) 630 0 1, rfl, ?_, fun k hk => ?_, ?_, ?_, ?_, ?_, ?_, ?_, ?_⟩
      · exact (((((F0.tr (Fx.si (by unfold FP; omega))).tr (Fx.si (by unfold FP; omega))).tr (Fx.sl (by unfold FP; omega))).tr (Fx.sl (by unfold FP; omega))).tr (Fx.sl (by unfold FP; omega))).tr (Fx.sl (by unfold FP; omega))
      · simp only [gi_l]
        rw [gi_n (by omega), gi_n (by omega), gi_n (by omega), gi_n (by omega)]
        exact hd k (by omega)
      · simp only [gi_l]
        rw [gi_n (by omega), gi_n (by omega)]; exact r34
      · simp only [gi_l]
        rw [gi_n (by omega), gi_s]
      · simp only [gi_l]
        rw [gi_s]
      · rw [gl_n (by omega), gl_n (by omega), gl_n (by omega), gl_s]
      · rw [gl_n (by omega), gl_n (by omega), gl_s]
      · rw [gl_n (by omega), gl_s]
      · rw [gl_s]
    · have hp := PL_lt (show j < (PL (Mm.gi σ) s t).length by omega)
      have hpos : (PL (Mm.gi σ) s t).getD j 0 < t := hp
      have r14 : ∀ ρ', Fx (fun a b => a = 618 ∨ a = 619) ρ ρ' → Mm.gi ρ' 614 j = nI (24 * s + (PL (Mm.gi σ) s t).getD j 0) := fun ρ' h => by rw [h.gi (by omega), hR.gi (by omega), gi_n (by omega)]; exact q4 j (by omega)
      have G : ∀ o k, (o = 597 ∨ o = 599 ∨ o = 601 ∨ o = 602 ∨ o = 596 ∨ o = 598 ∨ o = 600 ∨ (o = 595 ∧ (k = 7 ∨ k = 8)) ∨ (550 ≤ o ∧ o < 595)) → Mm.gi ρ o k = Mm.gi σ o k := fun o k ho => by rw [F0.gi (by unfold FP; omega), F.gi (by unfold CZ; omega)]
      have hA : IA ρ := IA_fr hI.1 (fun o k q => G o k (by unfold FA at q; omega))
      obtain ⟨g1, -⟩ := IA1_of hA hs ht (by rw [G 596 s (by omega)]; exact h1.2.1)
      have ec := pm_corrected hs g1 hpos hv
      rw [crq_cg (g := Mm.gi σ) (fun o k ho => G o k (by omega))] at ec
      have e7 : Mm.gi ρ 595 7 = nI v := by rw [G 595 7 (by omega)]; exact ev
      have S8 : ∀ (τ : Mm) (k : Nat) (v : Int32), Fx (fun a b => a = 618 ∨ a = 619) τ (Mm.si τ 618 k v) := fun τ k v => Fx.si (Or.inl rfl)
      have S9 : ∀ (τ : Mm) (k : Nat) (v : Int32), Fx (fun a b => a = 618 ∨ a = 619) τ (Mm.si τ 619 k v) := fun τ k v => Fx.si (Or.inr rfl)
      have e14 := r14 ρ Fx.rf
      have e14b := r14 (Mm.si ρ 618 j (crq (Mm.gi σ) s ((PL (Mm.gi σ) s t).getD j 0) v)) (S8 _ _ _)
      have e98 : Mm.gi (Mm.si ρ 618 j (crq (Mm.gi σ) s ((PL (Mm.gi σ) s t).getD j 0) v)) 598 (24 * s + (PL (Mm.gi σ) s t).getD j 0) = Mm.gi σ 598 (24 * s + (PL (Mm.gi σ) s t).getD j 0) := by rw [gi_n (by omega)]; exact G 598 _ (by omega)
      have ij : inb (nI j) 24 = true := inb_y (by omega) (by omega)
      rw [if_neg (i_nle (by omega) (by omega) (by omega)), if_pos ij, ix_nI (by omega), e14, e7, ec, bnd_some, if_pos ij, lt_e, if_pos ij, e14b, if_pos (inb_y (by omega) (by omega)), if_pos ij, lt_e, lt_e, ix_nI (by omega), e98, show nI j + 1 = nI (j + 1) from nI_add j 1]
      refine ih (d - 1) (by omega) (j + 1) _ (by omega) ((hR.tr (S8 _ _ _)).tr (S9 _ _ _)) (fun i hi => ?_)
      by_cases e : i = j
      · subst e
        rw [gi_n (by omega), gi_s, gi_s]
        exact ⟨iI_of _, iI_of _⟩
      · rw [gi_n (by omega), gi_n (by omega), gi_n (by omega), gi_n (by omega)]
        exact hd i (by omega)) fu (PL (Mm.gi σ) s t).length (by omega) 0 _ (by omega) Fx.rf (fun i hi => by omega)
end WZ
/-- the class seeks, the reference goes through -/
theorem seek_lock {tm er : Nat → Int} {n fu : Nat} {a1 a2 a3 : Int32} {ρ π : Mm} (hn2 : 2 ≤ n) (hn : n ≤ 24) (hb : DB tm er n) (hX : DX tm er n ρ) (hM : DM tm er n π) (c2 : 100000 ≤ a2.toInt ∧ a2.toInt ≤ 100000000) (c3 : 100000 ≤ a3.toInt ∧ a3.toInt ≤ 100000000) (g1 : Mm.gi ρ 17 1 = 0) (g2 : Mm.gi ρ 17 2 = nI n) (g3 : Mm.gi ρ 17 3 = 0) (g4 : Mm.gi ρ 17 4 = 0) (p34 : Mm.gi π 595 34 = nI n) (p33 : Mm.gi π 595 33 = 0) (p0 : Mm.gi π 625 0 = 0) (p7 : Mm.gl π 627 0 = Int32.toInt64 a2) (p8 : Mm.gl π 628 0 = 1) (p9 : Mm.gl π 629 0 = Int32.toInt64 a3) (p10 : Mm.gl π 630 0 = 1) (hfu : 50000 ≤ fu) : ∃ (r : Int32) (ρ' π' : Mm), f_X0_seek YF fu 17 a2 a3 ρ = some (r, ρ') ∧ gtq fu a1 a2 a3 π = some (r, π') ∧ Fx CZ ρ ρ' ∧ Fx FP π π' ∧ Mm.gi ρ' 17 0 = Mm.gi ρ 17 0 ∧ Mm.gi ρ' 17 2 = nI n ∧ Mm.gi π' 595 34 = nI n ∧ DX tm er n ρ' ∧ DM tm er n π' ∧ ((Mm.gi π' 595 32 = 1 ∧ Mm.gi ρ' 17 1 = 0 ∧ ∃ w, w ≤ 500 ∧ Mm.gi ρ' 17 3 = nI w ∧ Mm.gi π' 595 33 = nI w ∧ WK n ρ' π' w) ∨ (Mm.gi π' 595 32 = 2 ∧ Mm.gi ρ' 17 1 = 1 ∧ Mm.gi ρ' 17 3 = 0)) := by
  have x0 : ix 0 = 0 := rfl
  generalize hρ1 : Mm.sl (Mm.sl (Mm.sl (Mm.sl (Mm.si ρ 20 0 0) 26 0 (Int32.toInt64 a2)) 26 1 1) 26 2 (Int32.toInt64 a3)) 26 3 1 = ρ1
  have F1 : Fx (fun a b => (a = 20 ∧ b = 0) ∨ a = 26) ρ ρ1 := by
    rw [← hρ1]
    exact ((((Fx.si (Or.inl ⟨rfl, rfl⟩)).tr (Fx.sl (Or.inr rfl))).tr (Fx.sl (Or.inr rfl))).tr (Fx.sl (Or.inr rfl))).tr (Fx.sl (Or.inr rfl))
  have q20 : Mm.gi ρ1 20 0 = 0 := by rw [← hρ1]; simp only [gi_l]; rw [gi_s]
  have k0 : Mm.gl ρ1 26 0 = Int32.toInt64 a2 := by rw [← hρ1, gl_n (by omega), gl_n (by omega), gl_n (by omega), gl_s]
  have k1 : Mm.gl ρ1 26 1 = 1 := by rw [← hρ1, gl_n (by omega), gl_n (by omega), gl_s]
  have k2 : Mm.gl ρ1 26 2 = Int32.toInt64 a3 := by rw [← hρ1, gl_n (by omega), gl_s]
  have k3 : Mm.gl ρ1 26 3 = 1 := by rw [← hρ1, gl_s]
  have hX1 : DX tm er n ρ1 := fun j hj => ⟨by rw [F1.gi (by omega)]; exact (hX j hj).1, by rw [F1.gi (by omega)]; exact (hX j hj).2⟩
  have hLV : LV ρ1 π (1 - 1) := by
    refine ⟨by rw [q20]; exact p0.symm, by show rng (Mm.gi π 625 0) 0 20000; rw [p0]; exact ⟨by decide, by decide⟩, ⟨by show Mm.gl ρ1 26 0 = _; rw [k0]; exact p7.symm, by show Mm.gl ρ1 26 1 = _; rw [k1]; exact p8.symm, by show Mm.gl ρ1 26 2 = _; rw [k2]; exact p9.symm, by show Mm.gl ρ1 26 3 = _; rw [k3]; exact p10.symm⟩, ?_⟩
    show PR (Mm.gl π 627 0).toInt (Mm.gl π 628 0).toInt (Mm.gl π 629 0).toInt (Mm.gl π 630 0).toInt
    rw [p7, p8, p9, p10, Int32.toInt_toInt64, Int32.toInt_toInt64, show (1 : Int64).toInt = 1 from rfl]
    exact ⟨⟨by omega, by omega, by omega, by omega⟩, by omega, by omega, by omega, by omega⟩
  obtain ⟨ρ2, π2, u1, u2, u3, u4, u5⟩ := open_lock (k := 1) hn hb hX1 hM (by omega) (by omega) hLV
  have hRW : RW tm er n ρ2 π2 1 0 0 := by
    refine ⟨fun j hj => ⟨by rw [u3.gi (by omega)]; exact (hX1 j hj).1, by rw [u3.gi (by omega)]; exact (hX1 j hj).2⟩, fun j hj => ⟨by rw [u4.gi (by omega)]; exact (hM j hj).1, by rw [u4.gi (by omega)]; exact (hM j hj).2⟩, by rw [u3.gi (by omega), F1.gi (by omega)]; exact g1, by rw [u3.gi (by omega), F1.gi (by omega)]; exact g2, by rw [u4.gi (by omega)]; exact p34, by rw [u3.gi (by omega), F1.gi (by omega)]; exact g3, by rw [u4.gi (by omega)]; exact p33, by omega, by rw [u3.gi (by omega), F1.gi (by omega)]; exact g4, by omega, by rw [u4.gi (by omega)]; exact p0, by omega, fun j hj => ?_, fun j hj1 hj => ?_, fun j hj1 hj => by omega, fun i hi => by omega⟩
    · have : j = 1 - 1 := by omega
      subst this
      exact LV_c hLV u3 u4 (by omega) (fun i => by omega) (by omega) (fun o q1 q2 => by omega)
    · have : j = 1 := by omega
      subst this
      exact u5
  obtain ⟨r, b, ρ', π', z1, z2, z3, z4, z5⟩ := ways_loop (lo := a2) (hi := a3) hn2 hn hb (show 100 < fu by omega) 40003 fu fu 0 1 0 0 ρ2 π2 (by omega) (by omega) (by omega) (by omega) hRW
  have FX : Fx CSx ρ ρ' := ((F1.mono (fun a b c => by unfold CSx; omega)).tr (u3.mono (fun a b c => by unfold CSx; omega))).tr z3
  have GX : Fx CSm π π' := (u4.mono (fun a b c => by unfold CSm; omega)).tr z4
  have sk : f_X0_seek YF fu 17 a2 a3 ρ = some (r, ρ') := by
    unfold f_X0_seek f_X5_span
    rw [if_pos inb0, lt_e, if_pos inb0, lt_e, lt_e, lt_e, lt_e, bn1_some, x0]
    change bn1 (f_X0_open YF 17 1 (Mm.sl (Mm.sl (Mm.sl (Mm.sl (Mm.si ρ 20 0 0) 26 0 (Int32.toInt64 a2)) 26 1 1) 26 2 (Int32.toInt64 a3)) 26 3 1)) _ = _
    rw [hρ1]
    change f_X0_open YF 17 1 ρ1 = _ at u1
    rw [u1, bn1_some]
    exact z1
  have gt : f_X12_goThrough YF fu 595 π = some (b, π') := by
    unfold f_X12_goThrough
    change f_X12_open YF 595 1 π = _ at u2
    rw [u2, bn1_some]
    exact z2
  have D1 : DX tm er n ρ' := fun j hj => ⟨by rw [FX.gi (by unfold CSx; omega)]; exact (hX j hj).1, by rw [FX.gi (by unfold CSx; omega)]; exact (hX j hj).2⟩
  have D2 : DM tm er n π' := fun j hj => ⟨by rw [GX.gi (by unfold CSm; omega)]; exact (hM j hj).1, by rw [GX.gi (by unfold CSm; omega)]; exact (hM j hj).2⟩
  have e2 : Mm.gi ρ' 17 2 = nI n := by rw [FX.gi (by unfold CSx; omega)]; exact g2
  have e0 : Mm.gi ρ' 17 0 = Mm.gi ρ 17 0 := FX.gi (by unfold CSx; omega)
  have e34 : Mm.gi π' 595 34 = nI n := by rw [GX.gi (by unfold CSm; omega)]; exact p34
  unfold gtq b_X12_ways_178 b_X12_ways_195
  rw [gt, bnd_some]
  rcases z5 with ⟨hb1, w, w1, w2, w3, w4, w5, w6⟩ | ⟨hb0, w2, w3, w4⟩
  · subst hb1
    have G2 : Fx (fun a b => a = 595 ∧ (b = 32 ∨ b = 33)) π' (Mm.si (Mm.si π' 595 32 1) 595 33 (nI w)) := (Fx.si ⟨rfl, Or.inl rfl⟩).tr (Fx.si ⟨rfl, Or.inr rfl⟩)
    refine ⟨r, ρ', Mm.si (Mm.si π' 595 32 1) 595 33 (nI w), sk, ?_, FX.mono (fun a b c => by unfold CSx at c; unfold CZ; omega), (GX.mono (fun a b c => by unfold CSm at c; unfold FP; omega)).tr (G2.mono (fun a b c => by unfold FP; omega)), e0, e2, by rw [G2.gi (by omega)]; exact e34, D1, fun j hj => ⟨by rw [G2.gi (by omega)]; exact (D2 j hj).1, by rw [G2.gi (by omega)]; exact (D2 j hj).2⟩, Or.inl ⟨by rw [gi_n (by omega), gi_s], w3, w, w1, w4, by rw [gi_s], WK_c w6 w1 (Fx.rf (C := fun _ _ => False)) G2 (fun k => by simp) (fun i k hi => by simp) (fun o k q1 q2 => by omega)⟩⟩
    rw [if_neg t10, lt_e, if_neg t10, lt_e, if_neg t10, gi_s, gi_n (by omega), w5, w2]
  · subst hb0
    have G2 : Fx (fun a b => a = 595 ∧ (b = 32 ∨ b = 33)) π' (Mm.si (Mm.si π' 595 32 2) 595 33 0) := (Fx.si ⟨rfl, Or.inl rfl⟩).tr (Fx.si ⟨rfl, Or.inr rfl⟩)
    refine ⟨r, ρ', Mm.si (Mm.si π' 595 32 2) 595 33 0, sk, ?_, FX.mono (fun a b c => by unfold CSx at c; unfold CZ; omega), (GX.mono (fun a b c => by unfold CSm at c; unfold FP; omega)).tr (G2.mono (fun a b c => by unfold FP; omega)), e0, e2, by rw [G2.gi (by omega)]; exact e34, D1, fun j hj => ⟨by rw [G2.gi (by omega)]; exact (D2 j hj).1, by rw [G2.gi (by omega)]; exact (D2 j hj).2⟩, Or.inr ⟨by rw [gi_n (by omega), gi_s], w3, w4⟩⟩
    rw [if_pos rfl, lt_e, if_pos rfl, lt_e, if_pos rfl, w2]
theorem S_ways {FU : Nat} (hFU : 50000 ≤ FU) : Sim_ways Inv FU := by
  intro a1 a2 a3 σ hI
  unfold f_X11_ways f_X12_ways
  by_cases c1 : 0 ≤ a1.toInt ∧ a1.toInt ≤ 3
  rotate_left
  · exact ⟨-1, σ, σ, by rw [gxs_n c1], by rw [gms_n c1], hI⟩
  by_cases c2 : 100000 ≤ a2.toInt ∧ a2.toInt ≤ 100000000
  rotate_left
  · exact ⟨-1, σ, σ, by rw [gxs_y c1, gx_n 100000 100000000 rfl rfl c2], by rw [gms_y c1, gm_n 100000 100000000 rfl rfl c2], hI⟩
  by_cases c3 : 100000 ≤ a3.toInt ∧ a3.toInt ≤ 100000000
  rotate_left
  · exact ⟨-1, σ, σ, by rw [gxs_y c1, gx_y 100000 100000000 rfl rfl c2, gx_n 100000 100000000 rfl rfl c3], by rw [gms_y c1, gm_y 100000 100000000 rfl rfl c2, gm_n (B := a2.toInt) (C := 100000000) (Int32.toInt64 a2) 100000000 (Int32.toInt_toInt64 a2) rfl (by omega)], hI⟩
  by_cases c4 : a2 ≤ a3
  rotate_left
  · exact ⟨-1, σ, σ, by rw [gxs_y c1, gx_y 100000 100000000 rfl rfl c2, gx_y 100000 100000000 rfl rfl c3, if_neg c4], by rw [gms_y c1, gm_y 100000 100000000 rfl rfl c2, gm_n (B := a2.toInt) (C := 100000000) (Int32.toInt64 a2) 100000000 (Int32.toInt_toInt64 a2) rfl (by rw [Int32.le_iff_toInt_le] at c4; omega)], hI⟩
  have c5 : a2.toInt ≤ a3.toInt ∧ a3.toInt ≤ 100000000 := by rw [Int32.le_iff_toInt_le] at c4; omega
  obtain ⟨s, hs, rfl⟩ := i_in (n := 3) c1.1 c1.2 (by decide)
  obtain ⟨t, h1, h2⟩ := hI.1 s (by omega)
  obtain ⟨v, hv, ev⟩ := i_in (n := 1) hI.2.1.2.1.1 hI.2.1.2.1.2 (by decide)
  have ht := h1.1
  have hl : (PL (Mm.gi σ) s t).length ≤ 24 := by
    have := plf_len (fun i => Mm.gi σ 600 (24 * s + i)) (Mm.gi σ 595 8) t
    unfold PL; omega
  have hm : ∀ τ, (bnd (f_X12_isStar YF (nI s) τ) (fun (r_3 : Int32) (σ_2 : Mm) => if r_3 = 0 then some ((-1), σ_2) else bnd (f_X12_in YF (Int32.toInt64 a2) 100000 100000000 σ_2) (fun (r_6 : Int32) (σ_5 : Mm) => if r_6 = 0 then some ((-1), σ_5) else bnd (f_X12_in YF (Int32.toInt64 a3) (Int32.toInt64 a2) 100000000 σ_5) (fun (r_9 : Int32) (σ_8 : Mm) => if r_9 = 0 then some ((-1), σ_8) else bn1 (f_X12_layCounts YF FU 595 (nI s) σ_8) (fun (σ_11 : Mm) => if 2 ≤ (Mm.gi σ_11 595 22) then lt_ (Mm.si σ_11 595 34 (Mm.gi σ_11 595 22)) (fun (σ_12 : Mm) => b_X12_ways_63 YF FU 595 (nI s) a2 a3 FU 0 σ_12) else some ((-2), σ_11))))) : Option (Int32 × Mm)) = bn1 (f_X12_layCounts YF FU 595 (nI s) τ) (fun (σ_11 : Mm) => if 2 ≤ (Mm.gi σ_11 595 22) then lt_ (Mm.si σ_11 595 34 (Mm.gi σ_11 595 22)) (fun (σ_12 : Mm) => b_X12_ways_63 YF FU 595 (nI s) a2 a3 FU 0 σ_12) else some ((-2), σ_11)) := fun τ => by
    rw [gms_y c1, gm_y 100000 100000000 rfl rfl c2, gm_y (B := a2.toInt) (C := 100000000) (Int32.toInt64 a2) 100000000 (Int32.toInt_toInt64 a2) rfl c5]
  rw [gxs_y c1, gx_y 100000 100000000 rfl rfl c2, gx_y 100000 100000000 rfl rfl c3, if_pos c4, if_pos (inb_y (by omega) (by omega)), lt_e, ix_nI (by omega), h2.1]
  change ∃ r σ1 σ2, (if 2 ≤ nI (PL (Mm.gi σ) s t).length then bn1 (f_X0_begin YF 17 (nI (PL (Mm.gi σ) s t).length) σ) (fun (σ_19 : Mm) => b_X11_ways_68 YF FU 1 (nI s) a2 a3 FU (nI (PL (Mm.gi σ) s t).length) 0 σ_19) else some ((-2), σ)) = some (r, σ1) ∧ _
  by_cases cn : 2 ≤ (PL (Mm.gi σ) s t).length
  rotate_left
  · obtain ⟨σ', q1, q2, q3, q4⟩ := pm_layCounts (fu := FU) (σ := σ) (s := s) (t := t) (by omega) ht h1.2.1 (by omega)
    change Mm.gi σ' 595 22 = nI (PL (Mm.gi σ) s t).length at q3
    refine ⟨-2, σ, σ', by rw [if_neg (show ¬ (2 : Int32) ≤ nI (PL (Mm.gi σ) s t).length from i_nle (a := 2) (by omega) (by omega) (by omega))], ?_, lay_inv hI q2⟩
    rw [hm, q1, bn1_some, q3, if_neg (show ¬ (2 : Int32) ≤ nI (PL (Mm.gi σ) s t).length from i_nle (a := 2) (by omega) (by omega) (by omega))]
  rw [if_pos (show (2 : Int32) ≤ nI (PL (Mm.gi σ) s t).length from (i_le (a := 2) (by omega) (by omega)).mpr cn)]
  have hb := tm_b (v := v) hI.2.1 h1 (by omega)
  -- the class begins
  generalize hσ1 : Mm.si (Mm.si (Mm.si (Mm.si (Mm.si σ 17 0 1) 17 1 0) 17 2 (nI (PL (Mm.gi σ) s t).length)) 17 3 0) 17 4 0 = σ1
  have bg : f_X0_begin YF 17 (nI (PL (Mm.gi σ) s t).length) σ = some σ1 := by
    unfold f_X0_begin
    rw [lt_e, lt_e, lt_e, lt_e, lt_e, hσ1]
  have F1 : Fx CZ σ σ1 := by
    rw [← hσ1]
    exact ((((Fx.si (Or.inl rfl)).tr (Fx.si (Or.inl rfl))).tr (Fx.si (Or.inl rfl))).tr (Fx.si (Or.inl rfl))).tr (Fx.si (Or.inl rfl))
  have y0 : Mm.gi σ1 17 0 = 1 := by rw [← hσ1, gi_n (by omega), gi_n (by omega), gi_n (by omega), gi_n (by omega), gi_s]
  have y1 : Mm.gi σ1 17 1 = 0 := by rw [← hσ1, gi_n (by omega), gi_n (by omega), gi_n (by omega), gi_s]
  have y2 : Mm.gi σ1 17 2 = nI (PL (Mm.gi σ) s t).length := by rw [← hσ1, gi_n (by omega), gi_n (by omega), gi_s]
  have y3 : Mm.gi σ1 17 3 = 0 := by rw [← hσ1, gi_n (by omega), gi_s]
  have y4 : Mm.gi σ1 17 4 = 0 := by rw [← hσ1, gi_s]
  obtain ⟨ρ, x1, x2, x3⟩ := px_lay (a2 := a2) (a3 := a3) (fu := FU) hI (show s < 4 by omega) h1 h2 (show v < 2 by omega) ev (by omega) F1
  have F2 : Fx CZ σ ρ := F1.tr (x2.mono (fun a b c => by unfold CZ; omega))
  have lock := fun (π : Mm) (hM : DM (tmq σ s t v) (erq σ s t) (PL (Mm.gi σ) s t).length π) p34 p33 p0 p7 p8 p9 p10 => seek_lock (a1 := nI s) (a2 := a2) (a3 := a3) (ρ := ρ) (π := π) (fu := FU) cn hl hb x3 hM c2 c3 (by rw [x2.gi (by omega)]; exact y1) (by rw [x2.gi (by omega)]; exact y2) (by rw [x2.gi (by omega)]; exact y3) (by rw [x2.gi (by omega)]; exact y4) p34 p33 p0 p7 p8 p9 p10 hFU
  have lay := fun (τ : Mm) (F : Fx CZ σ τ) => pm_lay (a2 := a2) (a3 := a3) (fu := FU) hI (show s < 4 by omega) h1 h2 (show v < 2 by omega) ev cn (by omega) F
  obtain ⟨π0, l1, l2, l3, l4, l5, l6, l7, l8, l9, l10⟩ := lay σ Fx.rf
  obtain ⟨r, ρ', -, s1, -, s3, -⟩ := lock π0 l3 l4 l5 l6 l7 l8 l9 l10
  have F3 : Fx CZ σ ρ' := F2.tr s3
  obtain ⟨π1, m1, m2, m3, m4, m5, m6, m7, m8, m9, m10⟩ := lay ρ' F3
  obtain ⟨r', ρ'', σ', t1, t2, t3, t4, t5, t6, t7, t8, t9, t10'⟩ := lock π1 m3 m4 m5 m6 m7 m8 m9 m10
  rw [s1] at t1
  injection t1 with t1
  injection t1 with e1 e2
  subst e1 e2
  have G : Fx FP ρ' σ' := m2.tr t4
  refine ⟨r, ρ', σ', ?_, ?_, ?_⟩
  · rw [bg, bn1_some, x1, s1, bnd_some]
  · rw [hm, m1]
    exact t2
  · have FF : Fx (fun o k => CZ o k ∨ FP o k) σ σ' := (F3.mono (fun o k c => Or.inl c)).tr (G.mono (fun o k c => Or.inr c))
    have gx : ∀ o k, ¬ FP o k → Mm.gi σ' o k = Mm.gi ρ' o k := fun o k h => G.gi h
    refine ⟨IA_fr hI.1 (fun o k q => FF.gi (by unfold FA at q; unfold CZ FP; omega)), IT_fr hI.2.1 (fun o k q => FF.gi (by unfold FT at q; unfold CZ FP; omega)), IX_fr hI.2.2.1 (fun o k q => FF.gi (by unfold FX at q; unfold CZ FP; omega)), IM_fr hI.2.2.2.1 (fun o k q => FF o k (by unfold FM at q; unfold CZ FP; omega)), ?_⟩
    have z0 : Mm.gi σ' 17 0 = 1 := by rw [gx 17 0 (by unfold FP; omega), t5, x2.gi (by omega)]; exact y0
    rcases t10' with ⟨k1, k2, w, w1, w2, w3, w4⟩ | ⟨k1, k2, k3⟩
    · refine Or.inr (Or.inr ⟨k1, z0, by rw [gx 17 1 (by unfold FP; omega)]; exact k2, (PL (Mm.gi σ) s t).length, w, cn, hl, w1, by rw [gx 17 2 (by unfold FP; omega)]; exact t6, t7, by rw [gx 17 3 (by unfold FP; omega)]; exact w2, w3, fun k hk => ?_, ?_⟩)
      · have hbk := hb k hk
        rw [gx 18 k (by unfold FP; omega), gx 19 k (by unfold FP; omega), (t8 k hk).1, (t8 k hk).2, (t9 k hk).1, (t9 k hk).2]
        refine ⟨rfl, rfl, ?_, ?_⟩
        · unfold rng; rw [iI_toInt (by omega) (by omega)]; omega
        · unfold rng; rw [iI_toInt (by omega) (by omega)]; omega
      · exact WK_c w4 w1 G (Fx.rf (C := fun _ _ => False)) (fun k => by unfold FP; omega) (fun i k hi => by unfold FP; omega) (fun o k q1 q2 => by simp)
    · exact Or.inr (Or.inl ⟨k1, z0, by rw [gx 17 1 (by unfold FP; omega)]; exact k2, by rw [gx 17 3 (by unfold FP; omega)]; exact k3⟩)
