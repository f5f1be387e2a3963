/-! scratch memory -/
def CJ (o k : Nat) : Prop := (550 ≤ o ∧ o ≤ 554) ∨ (o = 595 ∧ ((22 ≤ k ∧ k ≤ 29) ∨ 49 ≤ k)) ∨ (614 ≤ o ∧ o ≤ 617) ∨ (625 ≤ o ∧ o ≤ 634) ∨ (o = 9 ∧ k = 2) ∨ o = 11
theorem J_inv {σ σ' : Mm} (hI : Inv σ) (h : Fx CJ σ σ') : Inv σ' :=
  Inv_fr hI h (fun o k c => by unfold CJ at c; unfold FA; omega) (fun o k c => by unfold CJ at c; unfold FT; omega) (fun o k c => by unfold CJ at c; unfold FX; omega) (fun o k c => by unfold CJ at c; unfold FM; omega) (fun o k c => by unfold CJ at c; unfold FW; omega)
theorem CR_J {σ σ' : Mm} (h : Fx CR σ σ') : Fx CJ σ σ' := h.mono (fun o k c => by unfold CR at c; unfold CJ; omega)
theorem J_gi {σ σ' : Mm} (h : Fx CJ σ σ') {o k : Nat} (c : ¬ CJ o k) : Mm.gi σ' o k = Mm.gi σ o k := h.gi c
theorem J_M {σ σ' : Mm} (h : Fx CJ σ σ') {o k : Nat} (h1 : 596 ≤ o) (h2 : o ≤ 613) : Mm.gi σ' o k = Mm.gi σ o k := h.gi (by unfold CJ; omega)
theorem J_PL {σ σ' : Mm} (h : Fx CJ σ σ') (s t : Nat) : PL (Mm.gi σ') s t = PL (Mm.gi σ) s t := IS_pl (fun k => J_M h (by omega) (by omega)) (h.gi (by unfold CJ; omega))
theorem J_crq {σ σ' : Mm} (h : Fx CJ σ σ') (s p v : Nat) : crq (Mm.gi σ') s p v = crq (Mm.gi σ) s p v := crq_cg (fun o k ho => J_M h (by omega) (by omega))
theorem J_cmq {σ σ' : Mm} (h : Fx CJ σ σ') (s n : Nat) : cmq (Mm.gi σ') s n = cmq (Mm.gi σ) s n := cmq_cg (fun o k x y => J_M h (by omega) (by omega))
theorem J_tnq {σ σ' : Mm} (h : Fx CJ σ σ') (s T p v : Nat) : tnq (Mm.gi σ') s T p v = tnq (Mm.gi σ) s T p v := by
  unfold tnq czq
  rw [J_crq h, show (fun n => (cmq (Mm.gi σ') s n).toInt) = fun n => (cmq (Mm.gi σ) s n).toInt from funext (fun n => by rw [J_cmq h])]
theorem J_rsq {σ σ' : Mm} (h : Fx CJ σ σ') (s T p v : Nat) : rsq (Mm.gi σ') s T p v = rsq (Mm.gi σ) s T p v := by
  unfold rsq czq
  rw [J_crq h, J_tnq h, J_cmq h]
theorem J_MT {σ σ' : Mm} {s md T : Nat} (hs : s < 4) (h : Fx CJ σ σ') (hM : MT σ s md T) : MT σ' s md T := by
  obtain ⟨m1, m2, m3, ⟨x1, x2, x3, x4⟩, m5, m6⟩ := hM
  have e := bgq_cg (g := Mm.gi σ) (g' := Mm.gi σ') (s := s) (fun o k x y => J_M h (by omega) (by omega))
  refine ⟨m1, by rw [h.gr (by unfold CJ; omega)]; exact m2, MD_cg (fun o k q => h.gi (by unfold isM at m1; unfold CJ; omega)) m3, ⟨x1, x2, fun n hn => by rw [e]; exact x3 n hn, fun h => by rw [e]; exact x4 h⟩, by rw [h.gi (by unfold CJ; omega)]; exact m5, fun n hn => by rw [h.gl (by unfold CJ; omega), e]; exact m6 n hn⟩
/-- all that is known of a star with a model -/
def SD (σ : Mm) (s t md T v : Nat) : Prop := Inv σ ∧ s < 4 ∧ t ≤ 24 ∧ v < 2 ∧ IA1 (Mm.gi σ) s t ∧ IS1 (Mm.gi σ) s t ∧ MT σ s md T ∧ Mm.gi σ 603 s = 1 ∧ Mm.gi σ 595 7 = nI v
theorem SD_of {σ : Mm} (hI : Inv σ) {s : Nat} (hs : s < 4) : (Mm.gi σ 603 s = 0 ∧ Mm.gi σ (558 + 10 * s) 2 = 0) ∨ ∃ t md T v, SD σ s t md T v := by
  rcases IM_one hI.2.2.2.1 hs with q | ⟨q1, md, T, hM⟩
  · exact Or.inl q
  · obtain ⟨t, h1, h2⟩ := hI.1 s hs
    obtain ⟨v, hv, ev⟩ := i_in (n := 1) hI.2.1.2.1.1 hI.2.1.2.1.2 (by decide)
    exact Or.inr ⟨t, md, T, v, hI, hs, h1.1, by omega, h1, h2, hM, q1, ev⟩
theorem J_SD {σ σ' : Mm} {s t md T v : Nat} (h : Fx CJ σ σ') (hS : SD σ s t md T v) : SD σ' s t md T v := by
  obtain ⟨h1, h2, h3, h4, h5, h6, h7, h8, h9⟩ := hS
  have hI := J_inv h1 h
  obtain ⟨a1, a2⟩ := IA1_of hI.1 h2 h3 (by rw [J_M h (by omega) (by omega)]; exact h5.2.1)
  exact ⟨hI, h2, h3, h4, a1, a2, J_MT h2 h h7, by rw [J_M h (by omega) (by omega)]; exact h8, by rw [h.gi (by unfold CJ; omega)]; exact h9⟩
section SDS
variable {σ τ : Mm} {s t md T v k w fu : Nat}
theorem sd_len (hS : SD σ s t md T v) : (PL (Mm.gi σ) s t).length ≤ 24 := by
  have := plf_len (fun i => Mm.gi σ 600 (24 * s + i)) (Mm.gi σ 595 8) t
  have := hS.2.2.1
  unfold PL
  omega
theorem sd_x (hS : SD σ s t md T v) (h : Fx CJ σ τ) (hk : k < (PL (Mm.gi σ) s t).length) (hw : w < 2) (hfu : 10050 < fu) : f_X11_residueBy YF fu 1 (nI s) (nI k) (nI w) τ = some (rsq (Mm.gi σ) s T ((PL (Mm.gi σ) s t).getD k 0) w, τ) := by
  obtain ⟨h1, h2, h3, h4, h5, h6, h7, h8, h9⟩ := J_SD h hS
  rw [← J_PL h] at hk
  rw [px_residueBy h2 h1.2.1 h5 h6 h7 hk hw hfu, J_PL h, J_rsq h]
theorem sd_t (hS : SD σ s t md T v) (h : Fx CJ σ τ) (hk : k < (PL (Mm.gi σ) s t).length) (hfu : 10050 < fu) : f_X11_turnOf YF fu 1 (nI s) (nI k) τ = some (nI (tnq (Mm.gi σ) s T ((PL (Mm.gi σ) s t).getD k 0) v), τ) := by
  obtain ⟨h1, h2, h3, h4, h5, h6, h7, h8, h9⟩ := J_SD h hS
  rw [← J_PL h] at hk
  rw [px_turnOf h2 h1.2.1 h5 h6 h7 hk h4 h9 hfu, J_PL h, J_tnq h]
theorem sd_v (hS : SD σ s t md T v) (h : Fx CJ σ τ) (hk : k < (PL (Mm.gi σ) s t).length) (hw : w < 4) : f_X7_value YF (555 + 10 * s) (nI k) (nI w) τ = some (Mm.gi σ (555 + 10 * s + 1) (4 * (PL (Mm.gi σ) s t).getD k 0 + w), τ) := by
  obtain ⟨h1, h2, h3, h4, h5, h6, h7, h8, h9⟩ := J_SD h hS
  rw [← J_PL h] at hk
  rw [px_value h2 h5 h6 hk hw, J_PL h, J_gi h (by unfold CJ; omega)]
theorem sd_n (hS : SD σ s t md T v) (h : Fx CJ σ τ) : Mm.gi τ (555 + 10 * s) 3 = nI (PL (Mm.gi σ) s t).length := by
  have h2 := hS.2.1
  rw [J_gi h (by unfold CJ; omega)]
  exact hS.2.2.2.2.2.1.1
theorem sd_s (hS : SD σ s t md T v) (h : Fx CJ σ τ) : f_X10_stands YF (558 + 10 * s) τ = some (1, τ) := px_stands10 (J_SD h hS).2.2.2.2.2.2.1
theorem sd_m (hS : SD σ s t md T v) (h : Fx CJ σ τ) (hw : w < 2) (hfu : 10050 < fu) : ∃ σ', f_X12_layRest YF fu 595 (nI s) (nI w) τ = some (1, σ') ∧ Fx CR τ σ' ∧ Fx CJ σ σ' ∧ Mm.gi σ' 595 22 = nI (PL (Mm.gi σ) s t).length ∧ (∀ j, j < (PL (Mm.gi σ) s t).length → Mm.gi σ' 614 j = nI (24 * s + (PL (Mm.gi σ) s t).getD j 0)) ∧ ∀ j, j < (PL (Mm.gi σ) s t).length → Mm.gi σ' 616 j = rsq (Mm.gi σ) s T ((PL (Mm.gi σ) s t).getD j 0) w ∧ Mm.gi σ' 617 j = nI (tnq (Mm.gi σ) s T ((PL (Mm.gi σ) s t).getD j 0) w) := by
  obtain ⟨h1, h2, h3, h4, h5, h6, h7, h8, h9⟩ := J_SD h hS
  obtain ⟨σ', r1, r2, r3, r4, r5⟩ := pm_layRest (fu := fu) (v := w) h1 h2 h5 h8 h7 hw hfu
  rw [J_PL h] at r3 r4 r5
  refine ⟨σ', r1, r2, h.tr (CR_J r2), r3, r4, fun j hj => ?_⟩
  have := r5 j hj
  rw [J_rsq h, J_tnq h] at this
  exact this
theorem tnq_lt (hS : SD σ s t md T v) (p : Nat) : tnq (Mm.gi σ) s T p w < 10001 := by
  have h := hS.2.2.2.2.2.2.1.2.2.2.1
  have := (tnq_n (g := Mm.gi σ) (s := s) (p := p) (v := w) h.1).1
  have := h.2.1
  omega
/-- a residue as a number -/
theorem rsq_z (hS : SD σ s t md T v) (hk : k < (PL (Mm.gi σ) s t).length) (hw : w < 2) : ∃ z : Int, rsq (Mm.gi σ) s T ((PL (Mm.gi σ) s t).getD k 0) w = iI z ∧ -4000000 ≤ z ∧ z ≤ 4000000 := by
  obtain ⟨h1, h2, h3, h4, h5, h6, h7, h8, h9⟩ := hS
  have hp : (PL (Mm.gi σ) s t).getD k 0 < t := PL_lt hk
  generalize (PL (Mm.gi σ) s t).getD k 0 = p at hp
  have b := crq_b h1.2.1 h5 hp hw
  obtain ⟨m1, m2, m3, m4, m5, m6⟩ := h7
  have hn := (tnq_n (g := Mm.gi σ) (s := s) (p := p) (v := w) m4.1).1
  have c1 := bgq_b m3 m4 _ hn
  have c2 := cmq_b m3 m4 hn
  have c3 : (czq (Mm.gi σ) s p w).natAbs ≤ 1001500000000 := by unfold czq; omega
  unfold rsq
  generalize cmq (Mm.gi σ) s (tnq (Mm.gi σ) s T p w) = x at c2
  generalize czq (Mm.gi σ) s p w = z at c3
  have hd : ((z - x.toInt).tdiv 1000000).natAbs = (z - x.toInt).natAbs / 1000000 := Int.natAbs_tdiv _ _
  rw [lI_of x, lI_sub, L1000000, lI_div (by omega) (by omega) (by omega) (by omega)]
  refine ⟨(z - x.toInt).tdiv 1000000, ?_, by omega, by omega⟩
  unfold lI iI
  rw [Int64.toInt32_ofInt]
end SDS
theorem S_residue {FU : Nat} (hFU : 10100 ≤ FU) : Sim_residue Inv FU := by
  intro a1 a2 σ hI
  unfold f_X11_residue f_X12_residue
  by_cases c1 : 0 ≤ a1.toInt ∧ a1.toInt ≤ 3
  · by_cases c2 : 0 ≤ a2.toInt ∧ a2.toInt ≤ 23
    · obtain ⟨s, hs, rfl⟩ := i_in (n := 3) c1.1 c1.2 (by decide)
      obtain ⟨k, hk, rfl⟩ := i_in (n := 23) c2.1 c2.2 (by decide)
      have hb : inb (nI s) 4 = true := inb_y (by omega) (by omega)
      rw [gxs_y c1, gxp_y c2]
      unfold f_X11_hasResidue
      rw [if_pos hb, ix_nI (by omega)]
      rcases SD_of hI (show s < 4 by omega) with ⟨q1, q2⟩ | ⟨t, md, T, v, hS⟩
      · exact ⟨-1000000002, σ, σ, by rw [px_stands10n q2, bnd_some, if_pos rfl, zr0, bnd_some, if_pos rfl], by rw [gms_y c1, gm_y 0 23 rfl rfl c2, pm_layRestn (by omega) q1, bnd_some, if_pos rfl], hI⟩
      · obtain ⟨h1, h2, h3, h4, h5, h6, h7, h8, h9⟩ := id hS
        have hl := sd_len hS
        obtain ⟨σ', r1, r2, r3, r4, r5, r6⟩ := sd_m (fu := FU) (w := v) hS Fx.rf h4 (by omega)
        rw [sd_s hS Fx.rf, bnd_some, if_neg t10, if_pos hb, sd_n hS Fx.rf]
        by_cases c3 : (PL (Mm.gi σ) s t).length ≤ k
        · exact ⟨-1000000002, σ, σ', by rw [if_pos ((i_le (by omega) (by omega)).mpr c3), zr0, bnd_some, if_pos rfl], by rw [gms_y c1, gm_y 0 23 rfl rfl c2, h9, r1, bnd_some, if_neg t10, r4, if_pos ((i_le (by omega) (by omega)).mpr c3)], J_inv hI r3⟩
        · exact ⟨_, σ, σ', by rw [if_neg (i_nle (by omega) (by omega) (by omega)), zr1, bnd_some, if_neg t10, h1.2.1.1, h9, sd_x hS Fx.rf (by omega) h4 (by omega), bnd_some], by rw [gms_y c1, gm_y 0 23 rfl rfl c2, h9, r1, bnd_some, if_neg t10, r4, if_neg (i_nle (by omega) (by omega) (by omega)), if_pos (inb_y (by omega) (by omega)), ix_nI (by omega), (r6 k (by omega)).1], J_inv hI r3⟩
    · exact ⟨-1000000000, σ, σ, by rw [gxs_y c1, gxp_n c2], by rw [gms_y c1, gm_n 0 23 rfl rfl c2], hI⟩
  · exact ⟨-1000000000, σ, σ, by rw [gxs_n c1], by rw [gms_n c1], hI⟩
theorem S_turn {FU : Nat} (hFU : 10100 ≤ FU) : Sim_turn Inv FU := by
  intro a1 a2 σ hI
  unfold f_X11_turn f_X12_turn
  by_cases c1 : 0 ≤ a1.toInt ∧ a1.toInt ≤ 3
  · by_cases c2 : 0 ≤ a2.toInt ∧ a2.toInt ≤ 23
    · obtain ⟨s, hs, rfl⟩ := i_in (n := 3) c1.1 c1.2 (by decide)
      obtain ⟨k, hk, rfl⟩ := i_in (n := 23) c2.1 c2.2 (by decide)
      have hb : inb (nI s) 4 = true := inb_y (by omega) (by omega)
      rw [gxs_y c1, gxp_y c2]
      unfold f_X11_hasResidue
      rw [if_pos hb, ix_nI (by omega)]
      rcases SD_of hI (show s < 4 by omega) with ⟨q1, q2⟩ | ⟨t, md, T, v, hS⟩
      · exact ⟨-2, σ, σ, by rw [px_stands10n q2, bnd_some, if_pos rfl, zr0, bnd_some, if_pos rfl], by rw [gms_y c1, gm_y 0 23 rfl rfl c2, pm_layRestn (by omega) q1, bnd_some, if_pos rfl], hI⟩
      · obtain ⟨h1, h2, h3, h4, h5, h6, h7, h8, h9⟩ := id hS
        have hl := sd_len hS
        obtain ⟨σ', r1, r2, r3, r4, r5, r6⟩ := sd_m (fu := FU) (w := v) hS Fx.rf h4 (by omega)
        rw [sd_s hS Fx.rf, bnd_some, if_neg t10, if_pos hb, sd_n hS Fx.rf]
        by_cases c3 : (PL (Mm.gi σ) s t).length ≤ k
        · exact ⟨-2, σ, σ', by rw [if_pos ((i_le (by omega) (by omega)).mpr c3), zr0, bnd_some, if_pos rfl], by rw [gms_y c1, gm_y 0 23 rfl rfl c2, h9, r1, bnd_some, if_neg t10, r4, if_pos ((i_le (by omega) (by omega)).mpr c3)], J_inv hI r3⟩
        · exact ⟨_, σ, σ', by rw [if_neg (i_nle (by omega) (by omega) (by omega)), zr1, bnd_some, if_neg t10, sd_t hS Fx.rf (by omega) (by omega), bnd_some], by rw [gms_y c1, gm_y 0 23 rfl rfl c2, h9, r1, bnd_some, if_neg t10, r4, if_neg (i_nle (by omega) (by omega) (by omega)), if_pos (inb_y (by omega) (by omega)), ix_nI (by omega), (r6 k (by omega)).2], J_inv hI r3⟩
    · exact ⟨-1, σ, σ, by rw [gxs_y c1, gxp_n c2], by rw [gms_y c1, gm_n 0 23 rfl rfl c2], hI⟩
  · exact ⟨-1, σ, σ, by rw [gxs_n c1], by rw [gms_n c1], hI⟩
