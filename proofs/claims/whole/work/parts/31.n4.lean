/-! a star with a model -/
def MT (σ : Mm) (s md T : Nat) : Prop := isM md ∧ Mm.gr σ (558 + 10 * s) 1 = md ∧ MD (Mm.gi σ) s md ∧ TQ (Mm.gi σ) s T ∧ Mm.gi σ (558 + 10 * s) 2 = nI T ∧ ∀ n, n < T → Mm.gl σ (558 + 10 * s + 1) n = bgq (Mm.gi σ) s n
theorem IM_one {σ : Mm} (h : IM σ) {s : Nat} (hs : s < 4) : (Mm.gi σ 603 s = 0 ∧ Mm.gi σ (558 + 10 * s) 2 = 0) ∨ (Mm.gi σ 603 s = 1 ∧ ∃ md T, MT σ s md T) := by
  obtain ⟨md, h1, h2, h3, h4⟩ := h
  obtain ⟨h5, h6⟩ := h4 s hs
  rcases h6 with q | ⟨q1, q2, T, q3, q4, q5⟩
  · exact Or.inl q
  · exact Or.inr ⟨q1, md s, T, h1 s (by omega), h5, q2, q3, q4, q5⟩
theorem px_comesAt {σ : Mm} {s md T n fu : Nat} (hs : s < 4) (hM : MT σ s md T) (hn : n < T) (hfu : 3 < fu) : f_X10_comesAt YF fu (558 + 10 * s) (nI n) σ = some (cmq (Mm.gi σ) s n, σ) := by
  obtain ⟨-, h1, h2, ⟨t1, t2, -⟩, h4, h5⟩ := hM
  unfold f_X10_comesAt
  rw [if_pos (inb_y (by omega) (by omega)), h1, px_lateOf hs h2 (by omega) hfu, bnd_some, ix_nI (by omega), h5 n hn]
  rfl
theorem px_stands10 {σ : Mm} {s md T : Nat} (hM : MT σ s md T) : f_X10_stands YF (558 + 10 * s) σ = some (1, σ) := by
  obtain ⟨-, h1, h2, ⟨t1, t2, -⟩, h4, h5⟩ := hM
  unfold f_X10_stands
  rw [h4, if_neg (nI_nle t1 (by omega))]
  rfl
theorem px_stands10n {σ : Mm} {s : Nat} (h : Mm.gi σ (558 + 10 * s) 2 = 0) : f_X10_stands YF (558 + 10 * s) σ = some (0, σ) := by
  unfold f_X10_stands
  rw [h]
  rfl
theorem t01 : ¬ (0 : Int32) = 1 := by decide
theorem S_comes {FU : Nat} (hFU : 10100 ≤ FU) : Sim_comes Inv FU := by
  intro a1 a2 σ hI
  unfold f_X11_comes f_X12_comes
  by_cases c1 : 0 ≤ a1.toInt ∧ a1.toInt ≤ 3
  · by_cases c2 : 0 ≤ a2.toInt ∧ a2.toInt ≤ 10000
    · obtain ⟨s, hs, rfl⟩ := i_in (n := 3) c1.1 c1.2 (by decide)
      obtain ⟨n, hn, rfl⟩ := i_in (n := 10000) c2.1 c2.2 (by decide)
      have hb : inb (nI s) 4 = true := inb_y (by omega) (by omega)
      rw [gxs_y c1, gx_y 0 10000 rfl rfl c2, if_pos hb, ix_nI (by omega)]
      rcases IM_one hI.2.2.2.1 (show s < 4 by omega) with ⟨q1, q2⟩ | ⟨q1, md, T, hM⟩
      · exact ⟨-2, σ, σ, by rw [q2, if_pos (nI_pos' (by omega))], by rw [gms_y c1, gm_y 0 10000 rfl rfl c2, if_pos hb, ix_nI (by omega), q1, if_pos rfl], hI⟩
      · obtain ⟨m1, m2, m3, m4, m5, m6⟩ := id hM
        obtain ⟨σ', r1, r2, r3, r4⟩ := pm_layTurns (fu := FU) (show s < 4 by omega) m1 m3 m4 (by omega)
        have hI' : Inv σ' := Inv_fr hI r2 (fun o k c => by unfold FA; omega) (fun o k c => by unfold FT; omega) (fun o k c => by unfold FX; omega) (fun o k c => by unfold FM; omega) (fun o k c => by unfold FW; omega)
        have ht := m4.2.1
        by_cases c3 : T ≤ n
        · exact ⟨-2, σ, σ', by rw [m5, if_pos ((i_le (by omega) (by omega)).mpr c3)], by rw [gms_y c1, gm_y 0 10000 rfl rfl c2, if_pos hb, ix_nI (by omega), q1, if_neg t10, r1, bn1_some, r3, if_pos ((i_le (by omega) (by omega)).mpr c3)], hI'⟩
        · exact ⟨cmq (Mm.gi σ) s n, σ, σ', by rw [m5, if_neg (i_nle (by omega) (by omega) (by omega)), if_pos hb, px_comesAt (by omega) hM (by omega) (by omega), bnd_some], by rw [gms_y c1, gm_y 0 10000 rfl rfl c2, if_pos hb, ix_nI (by omega), q1, if_neg t10, r1, bn1_some, r3, if_neg (i_nle (by omega) (by omega) (by omega)), if_pos (inb_y (by omega) (by omega)), r4 n (by omega)], hI'⟩
    · exact ⟨-1, σ, σ, by rw [gxs_y c1, gx_n 0 10000 rfl rfl c2], by rw [gms_y c1, gm_n 0 10000 rfl rfl c2], hI⟩
  · exact ⟨-1, σ, σ, by rw [gxs_n c1], by rw [gms_n c1], hI⟩
/-! residues -/
theorem PL_lt {g : Gi} {s t k : Nat} (h : k < (PL g s t).length) : (PL g s t).getD k 0 < t := plf_lt h
def czq (g : Gi) (s p v : Nat) : Int := 1000000 * (crq g s p v).toInt
def tnq (g : Gi) (s T p v : Nat) : Nat := nrq (dz (fun n => (cmq g s n).toInt) (czq g s p v)) T
def rsz (g : Gi) (s T p v : Nat) : Int := (czq g s p v - (cmq g s (tnq g s T p v)).toInt).tdiv 1000000
def rsq (g : Gi) (s T p v : Nat) : Int32 := Int64.toInt32 ((lI (czq g s p v) - cmq g s (tnq g s T p v)) / 1000000)
theorem crq_b {σ : Mm} {s t p v : Nat} (hT : IT σ) (h1 : IA1 (Mm.gi σ) s t) (hp : p < t) (hv : v < 2) : -1500 ≤ (crq (Mm.gi σ) s p v).toInt ∧ (crq (Mm.gi σ) s p v).toInt ≤ 1001500 := by
  obtain ⟨a1, a2, a3, a4, a5, a6, a7⟩ := h1.2.2.2 p hp
  obtain ⟨q, hq, eq⟩ := i_in (n := 1000000) a5.1 a5.2 (by decide)
  obtain ⟨u, hu, eu⟩ := i_in (n := 2) a7.1 a7.2 (by decide)
  have r1 := (hT.2.2.2.1 u (by omega)).2
  have r2 := (hT.2.2.2.2 v (q / 100000) hv (by omega)).2
  unfold crq
  rw [eq, eu, ix_nI (by omega), ix_nI (by omega), iI_n]
  generalize Mm.gi σ 601 u = x at r1
  generalize Mm.gi σ 602 (11 * v + q / 100000) = y at r2
  unfold rng at r1 r2
  rw [iI_of x, iI_of y, iI_sub, iI_add, iI_toInt (by omega) (by omega)]
  omega
theorem tnq_n {g : Gi} {s T p v : Nat} (hT : 0 < T) : Near (dz (fun n => (cmq g s n).toInt) (czq g s p v)) T (tnq g s T p v) := near_q _ T hT
theorem px_near {σ : Mm} {s md T t p v fu : Nat} (hs : s < 4) (hIT : IT σ) (h1 : IA1 (Mm.gi σ) s t) (hM : MT σ s md T) (hp : p < t) (hv : v < 2) (hfu : 10050 < fu) : f_X10_nearest YF fu (558 + 10 * s) (lI (czq (Mm.gi σ) s p v)) σ = some (nI (tnq (Mm.gi σ) s T p v), σ) := by
  have b := crq_b hIT h1 hp hv
  obtain ⟨m1, m2, m3, m4, m5, m6⟩ := id hM
  refine px_nearest (B := fun n => (bgq (Mm.gi σ) s n).toInt) m4.1 m4.2.1 m5 (fun n hn => by rw [m6 n hn]; exact lI_of _) (fun n hn => by rw [px_comesAt hs hM hn (by omega), ← lI_of]) (fun n hn => ?_) (fun m n h hn => bgq_m m3 m4 h hn) (fun n hn => cmq_b m3 m4 hn) (by unfold czq; omega) hfu
  have := bgq_b m3 m4 n hn
  exact ⟨this.1, this.2.1⟩
theorem px_residueAt {σ : Mm} {s md T t p v fu : Nat} (hs : s < 4) (hIT : IT σ) (h1 : IA1 (Mm.gi σ) s t) (hM : MT σ s md T) (hp : p < t) (hv : v < 2) (hfu : 10050 < fu) : f_X10_residueAt YF fu (558 + 10 * s) (crq (Mm.gi σ) s p v) σ = some (rsq (Mm.gi σ) s T p v, σ) := by
  have e : Int32.toInt64 (crq (Mm.gi σ) s p v) * 1000000 = lI (czq (Mm.gi σ) s p v) := by
    rw [lI_i, L1000000, lI_mul, Int.mul_comm]
    rfl
  unfold f_X10_residueAt
  rw [lt_e, e, px_near hs hIT h1 hM hp hv hfu, bnd_some, px_comesAt hs hM (tnq_n hM.2.2.2.1.1).1 (by omega), bnd_some]
  rfl
theorem px_residueBy {σ : Mm} {s md T t k v fu : Nat} (hs : s < 4) (hIT : IT σ) (h1 : IA1 (Mm.gi σ) s t) (h2 : IS1 (Mm.gi σ) s t) (hM : MT σ s md T) (hk : k < (PL (Mm.gi σ) s t).length) (hv : v < 2) (hfu : 10050 < fu) : f_X11_residueBy YF fu 1 (nI s) (nI k) (nI v) σ = some (rsq (Mm.gi σ) s T ((PL (Mm.gi σ) s t).getD k 0) v, σ) := by
  unfold f_X11_residueBy
  rw [if_pos (inb_y (by omega) (by omega)), px_corrected hs hIT h1 h2 hk hv, bnd_some, ix_nI (by omega), px_residueAt hs hIT h1 hM (PL_lt hk) hv hfu, bnd_some]
theorem px_turnOf {σ : Mm} {s md T t k v fu : Nat} (hs : s < 4) (hIT : IT σ) (h1 : IA1 (Mm.gi σ) s t) (h2 : IS1 (Mm.gi σ) s t) (hM : MT σ s md T) (hk : k < (PL (Mm.gi σ) s t).length) (hv : v < 2) (ev : Mm.gi σ 595 7 = nI v) (hfu : 10050 < fu) : f_X11_turnOf YF fu 1 (nI s) (nI k) σ = some (nI (tnq (Mm.gi σ) s T ((PL (Mm.gi σ) s t).getD k 0) v), σ) := by
  have e : Int32.toInt64 (crq (Mm.gi σ) s ((PL (Mm.gi σ) s t).getD k 0) v) * 1000000 = lI (czq (Mm.gi σ) s ((PL (Mm.gi σ) s t).getD k 0) v) := by
    rw [lI_i, L1000000, lI_mul, Int.mul_comm]
    rfl
  unfold f_X11_turnOf
  rw [if_pos (inb_y (by omega) (by omega)), hIT.1, ev, px_corrected hs hIT h1 h2 hk hv, bnd_some, ix_nI (by omega), e, px_near hs hIT h1 hM (PL_lt hk) hv hfu, bnd_some]
/-! the residues laid out -/
def CR (a b : Nat) : Prop := (a = 595 ∧ (b = 22 ∨ b = 29)) ∨ (614 ≤ a ∧ a ≤ 617)
theorem CR_inv {σ σ' : Mm} (hI : Inv σ) (h : Fx CR σ σ') : Inv σ' :=
  Inv_fr hI h (fun o k c => by unfold CR at c; unfold FA; omega) (fun o k c => by unfold CR at c; unfold FT; omega) (fun o k c => by unfold CR at c; unfold FX; omega) (fun o k c => by unfold CR at c; unfold FM; omega) (fun o k c => by unfold CR at c; unfold FW; omega)
theorem pm_size {a : Int} {σ : Mm} (h : a.natAbs ≤ 9000000000000000000) : f_X12_size YF (lI a) σ = some (lI (a.natAbs : Int), σ) := by
  unfold f_X12_size
  by_cases q : 0 ≤ a
  · rw [L0, if_pos ((lI_le (by omega) (by omega) (by omega) (by omega)).mpr q), show (a.natAbs : Int) = a by omega]
  · rw [L0, if_neg (by rw [lI_le (by omega) (by omega) (by omega) (by omega)]; exact q), lI_neg, show (a.natAbs : Int) = -a by omega]
theorem dz_abs (C : Nat → Int) (z : Int) (n : Nat) : dz C z n = ((z - C n).natAbs : Int) := by unfold dz; split <;> omega
theorem pm_scan {τ : Mm} {fu T j : Nat} {s v : Int32} {k23 : Int32 → Mm → Option (Int32 × Mm)} {C : Nat → Int} {z : Int} (hT0 : 0 < T) (hT : T ≤ 10001) (hj : j < 24) (h29 : Mm.gi τ 595 29 = nI T) (hl : ∀ n, n < T → Mm.gl τ 615 n = lI (C n)) (bC : ∀ n, n < T → (C n).natAbs ≤ 3000000000000) (hz : z.natAbs ≤ 2000000000000) (hfu : 10050 < fu) : b_X12_layRest_55 YF fu 595 s v k23 fu (nI j) (lI z) 0 1 τ = k23 (nI (j + 1)) (Mm.si (Mm.si τ 616 j (Int64.toInt32 ((lI z - lI (C (nrq (dz C z) T))) / 1000000))) 617 j (nI (nrq (dz C z) T))) := by
  have key := lp_ind (f := s_X12_layRest_55 YF fu 595 s v k23) (a := fun _ _ _ _ _ => none) (fun d k => ∀ n, n + d = T → 0 < n → k (nI j) (lI z) (nI (nrq (dz C z) n)) (nI n) τ = k23 (nI (j + 1)) (Mm.si (Mm.si τ 616 j (Int64.toInt32 ((lI z - lI (C (nrq (dz C z) T))) / 1000000))) 617 j (nI (nrq (dz C z) T)))) (by
    intro d k ih n hn h0
    have hb := (near_q (dz C z) n h0).1
    unfold s_X12_layRest_55
    rw [h29]
    by_cases h : T ≤ n
    · have : n = T := by omega
      subst this
      rw [if_pos ((i_le (by omega) (by omega)).mpr h), if_pos (inb_y (by omega) (by omega)), if_pos (inb_y (by omega) (by omega)), lt_e, if_pos (inb_y (by omega) (by omega)), lt_e, lt_e, ix_nI (by omega), ix_nI (by omega), hl _ hb, i_lit 1, nI_add]
    · rw [if_neg (i_nle (by omega) (by omega) (by omega)), if_pos (inb_y (by omega) (by omega)), ix_nI (by omega), hl _ (by omega), lI_sub, pm_size (by have := bC n (by omega); omega), bnd_some, if_pos (inb_y (by omega) (by omega)), ix_nI (by omega), hl _ (by omega), lI_sub, pm_size (by have := bC _ (show nrq (dz C z) n < T by omega); omega), bnd_some, ← dz_abs, ← dz_abs]
      unfold b_X12_layRest_101
      have d1 := dz_0 C z n
      have d2 := dz_0 C z (nrq (dz C z) n)
      have b1 := bC n (by omega)
      have b2 := bC _ (show nrq (dz C z) n < T by omega)
      have d3 := dz_abs C z n
      have d4 := dz_abs C z (nrq (dz C z) n)
      have hn1 := ih (d - 1) (by omega) (n + 1) (by omega) (by omega)
      have es : nrq (dz C z) (n + 1) = if dz C z n < dz C z (nrq (dz C z) n) then n else nrq (dz C z) n := rfl
      rw [es] at hn1
      by_cases q : dz C z n < dz C z (nrq (dz C z) n)
      · rw [if_pos q] at hn1
        rw [if_neg (by rw [lI_le (by omega) (by omega) (by omega) (by omega)]; omega), lt_e, i_lit 1, nI_add]
        exact hn1
      · rw [if_neg q] at hn1
        rw [if_pos ((lI_le (by omega) (by omega) (by omega) (by omega)).mpr (by omega)), lt_e, i_lit 1, nI_add]
        exact hn1) fu (T - 1) (by omega) 1 (by omega) (by omega)
  rw [nrq_1] at key
  exact key
theorem pm_layRest {σ : Mm} {s t md T v fu : Nat} (hI : Inv σ) (hs : s < 4) (h1 : IA1 (Mm.gi σ) s t) (hm : Mm.gi σ 603 s = 1) (hM : MT σ s md T) (hv : v < 2) (hfu : 10050 < fu) : ∃ σ', f_X12_layRest YF fu 595 (nI s) (nI v) σ = some (1, σ') ∧ Fx CR σ σ' ∧ Mm.gi σ' 595 22 = nI (PL (Mm.gi σ) s t).length ∧ (∀ j, j < (PL (Mm.gi σ) s t).length → Mm.gi σ' 614 j = nI (24 * s + (PL (Mm.gi σ) s t).getD j 0)) ∧ ∀ j, j < (PL (Mm.gi σ) s t).length → Mm.gi σ' 616 j = rsq (Mm.gi σ) s T ((PL (Mm.gi σ) s t).getD j 0) v ∧ Mm.gi σ' 617 j = nI (tnq (Mm.gi σ) s T ((PL (Mm.gi σ) s t).getD j 0) v) := by
  obtain ⟨m1, m2, m3, m4, m5, m6⟩ := id hM
  have ht := h1.1
  have hlen : (PL (Mm.gi σ) s t).length ≤ t := plf_len _ _ _
  have hpl : ∀ j, j < (PL (Mm.gi σ) s t).length → (PL (Mm.gi σ) s t).getD j 0 < t := fun j hj => plf_lt hj
  obtain ⟨σ1, q1, q2, q3, q4⟩ := pm_layCounts (fu := fu) hs ht h1.2.1 (by omega)
  change Mm.gi σ1 595 22 = nI (PL (Mm.gi σ) s t).length at q3
  change ∀ j, j < (PL (Mm.gi σ) s t).length → Mm.gi σ1 614 j = nI (24 * s + (PL (Mm.gi σ) s t).getD j 0) at q4
  have hg1 : ∀ o k, 603 ≤ o → o ≤ 612 → Mm.gi σ1 o k = Mm.gi σ o k := fun o k x y => q2.gi (by omega)
  have m3' : MD (Mm.gi σ1) s md := MD_cg (fun o k q => q2.gi (by unfold isM at m1; omega)) m3
  have m4' : TQ (Mm.gi σ1) s T := by
    obtain ⟨x1, x2, x3, x4⟩ := m4
    have e := bgq_cg (g := Mm.gi σ) (g' := Mm.gi σ1) (s := s) (fun o k x y => hg1 o k (by omega) (by omega))
    exact ⟨x1, x2, fun n hn => by rw [e]; exact x3 n hn, fun h => by rw [e]; exact x4 h⟩
  obtain ⟨σ2, r1, r2, r3, r4⟩ := pm_layTurns (fu := fu) hs m1 m3' m4' hfu
  have r4 : ∀ n, n < T → Mm.gl σ2 615 n = cmq (Mm.gi σ) s n := fun n hn => by rw [r4 n hn, cmq_cg (fun o k x y => hg1 o k (by omega) y)]
  have F2 : Fx CR σ σ2 := Fx.tr (q2.mono (fun o k c => by unfold CR; omega)) (r2.mono (fun o k c => by unfold CR; omega))
  generalize PL (Mm.gi σ) s t = P at hlen hpl q3 q4 ⊢
  have key := lp_ind (f := s_X12_layRest_23 YF fu 595 (nI s) (nI v)) (a := fun _ _ => none) (fun d k => ∀ j τ, j + d = P.length → Fx CR σ τ → Mm.gi τ 595 22 = nI P.length → Mm.gi τ 595 29 = nI T → (∀ n, n < T → Mm.gl τ 615 n = cmq (Mm.gi σ) s n) → (∀ j, j < P.length → Mm.gi τ 614 j = nI (24 * s + P.getD j 0)) → (∀ i, i < j → Mm.gi τ 616 i = rsq (Mm.gi σ) s T (P.getD i 0) v ∧ Mm.gi τ 617 i = nI (tnq (Mm.gi σ) s T (P.getD i 0) v)) → ∃ σ', k (nI j) τ = some (1, σ') ∧ Fx CR σ σ' ∧ Mm.gi σ' 595 22 = nI P.length ∧ (∀ j, j < P.length → Mm.gi σ' 614 j = nI (24 * s + P.getD j 0)) ∧ ∀ j, j < P.length → Mm.gi σ' 616 j = rsq (Mm.gi σ) s T (P.getD j 0) v ∧ Mm.gi σ' 617 j = nI (tnq (Mm.gi σ) s T (P.getD j 0) v)) (by
    intro d k ih j τ hj hF h22 h29 hl h14 h16
    unfold s_X12_layRest_23
    rw [h22]
    by_cases h : P.length ≤ j
    · have : j = P.length := by omega
      refine ⟨τ, by rw [if_pos ((i_le (by omega) (by omega)).mpr h)]; rfl, hF, h22, h14, fun i hi => h16 i (by omega)⟩
    · have hp := hpl j (by omega)
      have hIτ := CR_inv hI hF
      have hA := (IA1_of hIτ.1 hs ht (by rw [hF.gi (by unfold CR; omega)]; exact h1.2.1)).1
      have hcr : crq (Mm.gi τ) s (P.getD j 0) v = crq (Mm.gi σ) s (P.getD j 0) v := crq_cg (fun o k ho => hF.gi (by unfold CR; omega))
      have b := crq_b hI.2.1 h1 hp hv
      have e : 1000000 * Int32.toInt64 (crq (Mm.gi σ) s (P.getD j 0) v) = lI (czq (Mm.gi σ) s (P.getD j 0) v) := by
        rw [lI_i, L1000000, lI_mul]
        rfl
      rw [if_neg (i_nle (by omega) (by omega) (by omega)), if_pos (inb_y (by omega) (by omega)), ix_nI (by omega), h14 j (by omega), pm_corrected hs hA hp hv, bnd_some, lt_e, hcr, e, pm_scan (C := fun n => (cmq (Mm.gi σ) s n).toInt) m4.1 m4.2.1 (by omega) h29 (fun n hn => by rw [hl n hn]; exact lI_of _) (fun n hn => by
        have h1 := cmq_b m3 m4 hn
        have h2 := bgq_b m3 m4 n hn
        show ((cmq (Mm.gi σ) s n).toInt).natAbs ≤ 3000000000000
        omega) (by unfold czq; omega) hfu]
      refine ih (d - 1) (by omega) (j + 1) _ (by omega) ((hF.tr (Fx.si (by unfold CR; omega))).tr (Fx.si (by unfold CR; omega))) (by rw [gi_n (by omega), gi_n (by omega)]; exact h22) (by rw [gi_n (by omega), gi_n (by omega)]; exact h29) (fun n hn => hl n hn) (fun i hi => by rw [gi_n (by omega), gi_n (by omega)]; exact h14 i hi) (fun i hi => ?_)
      by_cases ei : i = j
      · subst ei
        rw [gi_n (by omega), gi_s, gi_s, ← lI_of]
        exact ⟨rfl, rfl⟩
      · rw [gi_n (by omega), gi_n (by omega), gi_n (by omega), gi_n (by omega)]
        exact h16 i (by omega)) fu P.length (by omega)
  unfold f_X12_layRest
  rw [if_pos (inb_y (by omega) (by omega)), ix_nI (by omega), hm, if_neg t10, q1, bn1_some, r1, bn1_some]
  exact key 0 σ2 (by omega) F2 (by rw [r2.gi (by omega)]; exact q3) r3 r4 (fun i hi => by rw [r2.gi (by omega)]; exact q4 i hi) (fun i hi => by omega)
theorem pm_layRestn {σ : Mm} {s fu : Nat} {v : Int32} (hs : s < 4) (hm : Mm.gi σ 603 s = 0) : f_X12_layRest YF fu 595 (nI s) v σ = some (0, σ) := by
  unfold f_X12_layRest
  rw [if_pos (inb_y (by omega) (by omega)), ix_nI (by omega), hm, if_pos rfl]
  rfl
