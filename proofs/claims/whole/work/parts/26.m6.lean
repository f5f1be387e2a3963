/-! clear -/
theorem IA_one {σ σ' : Mm} (h : IA σ) (s0 : Nat) (hA : Mm.gi σ' 595 8 = Mm.gi σ 595 8) (hg : ∀ s, s < 4 → s ≠ s0 → (∀ k, Mm.gi σ' (555 + 10 * s) k = Mm.gi σ (555 + 10 * s) k) ∧ (∀ k, Mm.gi σ' (555 + 10 * s + 1) k = Mm.gi σ (555 + 10 * s + 1) k) ∧ (∀ k, Mm.gi σ' (555 + 10 * s + 2) k = Mm.gi σ (555 + 10 * s + 2) k) ∧ Mm.gi σ' 596 s = Mm.gi σ 596 s ∧ ∀ o i, 597 ≤ o → o ≤ 600 → i < 24 → Mm.gi σ' o (24 * s + i) = Mm.gi σ o (24 * s + i)) (hn : s0 < 4 → ∃ t, IA1 (Mm.gi σ') s0 t ∧ IS1 (Mm.gi σ') s0 t) : IA σ' := by
  intro s hs
  by_cases e : s = s0
  · subst e; exact hn hs
  · obtain ⟨t, ⟨h1, h2, h3, h4⟩, h5, h6⟩ := h s hs
    obtain ⟨g1, g2, g3, g4, g5⟩ := hg s hs e
    have hp : PL (Mm.gi σ') s t = PL (Mm.gi σ) s t := by
      unfold PL
      rw [hA]
      exact plf_cg (fun i hi => g5 600 i (by omega) (by omega) (by omega))
    refine ⟨t, ⟨h1, by rw [g4]; exact h2, by rw [g1]; exact h3, fun i hi => ?_⟩, by rw [hp, g1]; exact h5, fun j hj => by rw [hp] at hj ⊢; rw [g3]; exact h6 j hj⟩
    have h7 := h4 i hi
    unfold AV at h7 ⊢
    rw [g2, g2, g2, g2, g5 597 i (by omega) (by omega) (by omega), g5 598 i (by omega) (by omega) (by omega), g5 599 i (by omega) (by omega) (by omega), g5 600 i (by omega) (by omega) (by omega)]
    exact h7
theorem S_clear (FU : Nat) : Sim_clear Inv FU := by
  intro a1 σ hI
  unfold f_X11_clear f_X12_clear
  by_cases c1 : 0 ≤ a1.toInt ∧ a1.toInt ≤ 3
  · obtain ⟨s, hs, rfl⟩ := i_in (n := 3) c1.1 c1.2 (by decide)
    obtain ⟨t, ⟨h1, h2, h3, h4⟩, h5, h6⟩ := hI.1 s (by omega)
    have hb : inb (nI s) 4 = true := (inb_iff (by omega)).mpr (by omega)
    refine ⟨nI t, Mm.si (Mm.si σ (555 + 10 * s) 2 0) (555 + 10 * s) 3 0, Mm.si (Mm.si (Mm.si σ (555 + 10 * s) 2 0) (555 + 10 * s) 3 0) 596 s 0, ?_, ?_, ?_⟩
    · rw [gxs_y c1, if_pos hb, ix_nI (by omega)]
      unfold f_X7_dropAll
      rw [lt_e, lt_e, lt_e, bnd_some, h3]
    · rw [gms_y c1, if_pos hb, lt_e, if_pos hb, lt_e, ix_nI (by omega), gi_n (by omega), gi_n (by omega), h2]
    · have hF : Fx (fun o j => (o = 555 + 10 * s ∧ (j = 2 ∨ j = 3)) ∨ (o = 596 ∧ j = s)) σ (Mm.si (Mm.si (Mm.si σ (555 + 10 * s) 2 0) (555 + 10 * s) 3 0) 596 s 0) := ((Fx.si (Or.inl ⟨rfl, Or.inl rfl⟩)).tr (Fx.si (Or.inl ⟨rfl, Or.inr rfl⟩))).tr (Fx.si (Or.inr ⟨rfl, rfl⟩))
      refine ⟨IA_one hI.1 s (hF.gi (by omega)) (fun q hq hne => ⟨fun k => hF.gi (by omega), fun k => hF.gi (by omega), fun k => hF.gi (by omega), hF.gi (by omega), fun o i h7 h8 h9 => hF.gi (by omega)⟩) (fun _ => ⟨0, ⟨by omega, by rw [gi_s]; rfl, by rw [gi_n (by omega), gi_n (by omega), gi_s]; rfl, fun i hi => by omega⟩, by rw [gi_n (by omega), gi_s]; rfl, fun j hj => by simp [PL, plf] at hj⟩), IT_fr hI.2.1 (fun o j q => hF.gi (fun c => by unfold FT at q; omega)), IX_fr hI.2.2.1 (fun o j q => hF.gi (fun c => by unfold FX at q; omega)), IM_fr hI.2.2.2.1 (fun o j q => hF o j (fun c => by unfold FM at q; omega)), IW_fr hI.2.2.2.2 (fun o j q => ⟨hF.gi (fun c => by unfold FW at q; omega), hF.gl (fun c => by unfold FW at q; omega)⟩)⟩
  · exact ⟨-1, σ, σ, by rw [gxs_n c1], by rw [gms_n c1], hI⟩
/-! what stands of the ways -/
theorem px_stands {σ : Mm} (hW : IW σ) : f_X0_stands YF 17 σ = some (if Mm.gi σ 595 32 = 1 then 1 else 0, σ) := by
  unfold f_X0_stands
  rcases hW with ⟨h1, h2, h3⟩ | ⟨h1, h2, h3, h4⟩ | ⟨h1, h2, h3, -⟩
  · rw [h2, h1]; rfl
  · rw [h2, h3, h1]; rfl
  · rw [h2, h3, h1]; rfl
theorem S_way (FU : Nat) : Sim_way Inv FU := by
  intro a1 a2 σ hI
  unfold f_X11_way f_X12_way
  by_cases c0 : a1 < 0
  · exact ⟨-1, σ, σ, by rw [if_pos c0], by rw [if_pos c0], hI⟩
  by_cases c1 : 0 ≤ a2.toInt ∧ a2.toInt ≤ 23
  · rw [if_neg c0, gxp_y c1]
    have hst := px_stands hI.2.2.2.2
    by_cases c2 : Mm.gi σ 595 32 = 1
    · rw [if_pos c2] at hst
      rw [hst, bnd_some, if_neg t10]
      obtain ⟨k, hk, rfl⟩ := i_in (n := 23) c1.1 c1.2 (by decide)
      have hW := hI.2.2.2.2
      obtain ⟨n, w, h⟩ : ∃ n w, WY σ n w := by
        rcases hW with ⟨h1, -⟩ | ⟨h1, -⟩ | ⟨-, -, -, h⟩
        · rw [h1] at c2; exact absurd c2 (by decide)
        · rw [h1] at c2; exact absurd c2 (by decide)
        · exact h
      obtain ⟨w1, w2, w3, w4, w5, w6, w7, w8, w9⟩ := h
      rw [w4, w6]
      by_cases c3 : nI k < nI n
      · have hkn : k < n := (i_lt (by omega) (by omega)).mp c3
        rw [if_pos c3]
        by_cases c4 : nI w ≤ a1
        · exact ⟨-4, σ, σ, by rw [if_pos c4], by rw [if_neg c0, gm_y 0 23 rfl rfl c1, if_pos c2, w5, if_pos c3, w7, if_pos c4], hI⟩
        · obtain ⟨i, hi, rfl⟩ : ∃ i, i < w ∧ a1 = nI i := by
            have q1 : 0 ≤ a1.toInt := by rw [Int32.lt_iff_toInt_lt] at c0; have : (0 : Int32).toInt = 0 := rfl; omega
            have q2 : a1.toInt < w := by rw [Int32.le_iff_toInt_le, nI_toInt (by omega)] at c4; omega
            obtain ⟨i, h1, h2⟩ := i_in (n := 500) q1 (by omega) (by decide)
            refine ⟨i, ?_, h2⟩
            rw [h2, nI_toInt (by omega)] at q2
            omega
          have e1 : nI i * 24 + nI k = nI (24 * i + k) := by rw [i_lit 24, i_mul, nI_add, Nat.mul_comm]
          have e2 : 24 * nI i + nI k = nI (24 * i + k) := by rw [i_lit 24, i_mul, nI_add]
          have hb : inb (nI (24 * i + k)) 12000 = true := (inb_iff (by omega)).mpr (by omega)
          refine ⟨Mm.gi σ 24 (24 * i + k), σ, σ, ?_, ?_, hI⟩
          · rw [if_neg c4]
            unfold f_X0_countOf
            rw [e1, if_pos hb, bnd_some, ix_nI (by omega)]
          · rw [if_neg c0, gm_y 0 23 rfl rfl c1, if_pos c2, w5, if_pos c3, w7, if_neg c4, e2, if_pos hb, ix_nI (by omega), (((w9 i hi).1 k hkn)).1]
      · exact ⟨-2, σ, σ, by rw [if_neg c3], by rw [if_neg c0, gm_y 0 23 rfl rfl c1, if_pos c2, w5, if_neg c3], hI⟩
    · rw [if_neg c2] at hst
      exact ⟨-2, σ, σ, by rw [hst, bnd_some, if_pos rfl], by rw [if_neg c0, gm_y 0 23 rfl rfl c1, if_neg c2], hI⟩
  · exact ⟨-1, σ, σ, by rw [if_neg c0, gxp_n c1], by rw [if_neg c0, gm_n 0 23 rfl rfl c1], hI⟩
/-! the value and the corrected time of an arrival that counts -/
theorem px_value {σ : Mm} {s t k w : Nat} (hs : s < 4) (h1 : IA1 (Mm.gi σ) s t) (h2 : IS1 (Mm.gi σ) s t) (hk : k < (PL (Mm.gi σ) s t).length) (hw : w < 4) : f_X7_value YF (555 + 10 * s) (nI k) (nI w) σ = some (Mm.gi σ (555 + 10 * s + 1) (4 * (PL (Mm.gi σ) s t).getD k 0 + w), σ) := by
  have hl : (PL (Mm.gi σ) s t).length ≤ t := plf_len _ _ _
  have hp : (PL (Mm.gi σ) s t).getD k 0 < t := plf_lt hk
  have ht := h1.1
  unfold f_X7_value
  rw [if_pos ((inb_iff (by omega)).mpr (by omega)), ix_nI (by omega), h2.2 k hk, i_lit 4, i_mul, nI_add, if_pos ((inb_iff (by omega)).mpr (by omega)), ix_nI (by omega), Nat.mul_comm ((PL (Mm.gi σ) s t).getD k 0) 4]
/-- the corrected time of arrival p of star s by version v -/
def crq (g : Gi) (s p v : Nat) : Int32 := g 597 (24 * s + p) - g 601 (ix (g 599 (24 * s + p))) + g 602 (11 * v + ix (g 597 (24 * s + p)) / 100000)
theorem px_corrected {σ : Mm} {s t k v : Nat} (hs : s < 4) (hT : IT σ) (h1 : IA1 (Mm.gi σ) s t) (h2 : IS1 (Mm.gi σ) s t) (hk : k < (PL (Mm.gi σ) s t).length) (hv : v < 2) : f_X11_corrected YF 1 (nI s) (nI k) (nI v) σ = some (crq (Mm.gi σ) s ((PL (Mm.gi σ) s t).getD k 0) v, σ) := by
  have hp : (PL (Mm.gi σ) s t).getD k 0 < t := plf_lt hk
  have ht := h1.1
  generalize hpe : (PL (Mm.gi σ) s t).getD k 0 = p at hp ⊢
  obtain ⟨a1, a2, a3, a4, a5, a6, a7⟩ := h1.2.2.2 p hp
  have a1 : Mm.gi σ (555 + 10 * s + 1) (4 * p + 0) = Mm.gi σ 597 (24 * s + p) := a1
  obtain ⟨q, hq, eq⟩ := i_in (n := 1000000) a5.1 a5.2 (by decide)
  obtain ⟨u, hu, eu⟩ := i_in (n := 2) a7.1 a7.2 (by decide)
  have hb : inb (nI s) 4 = true := (inb_iff (by omega)).mpr (by omega)
  have x0 := px_value (w := 0) hs h1 h2 hk (by omega)
  have x2 := px_value (w := 2) hs h1 h2 hk (by omega)
  rw [hpe] at x0
  rw [hpe] at x2
  unfold f_X11_corrected
  rw [if_pos hb, ix_nI (by omega), show (0 : Int32) = nI 0 from rfl, x0, bnd_some, if_pos hb, show (2 : Int32) = nI 2 from rfl, x2, bnd_some, a1, a3, eq, eu]
  unfold f_X8_correct
  have hq10 : q / 100000 ≤ 10 := by omega
  rw [if_pos ((inb_iff (by omega)).mpr (by omega)), if_pos ((inb_iff (by omega)).mpr (by omega)), show (100000 : Int32) = nI 100000 from rfl, pk_div (by omega) (by omega) (by omega), if_pos ((inb_iff (by omega)).mpr (by omega)), bnd_some, ix_nI (by omega), ix_nI (by omega), ix_nI (by omega), Nat.one_mul]
  unfold crq
  rw [eq, eu, ix_nI (by omega), ix_nI (by omega), (hT.2.2.2.1 u (by omega)).1, (hT.2.2.2.2 v (q / 100000) hv (by omega)).1]
theorem pm_corrected {σ : Mm} {s t p v : Nat} (hs : s < 4) (h1 : IA1 (Mm.gi σ) s t) (hp : p < t) (hv : v < 2) : f_X12_corrected YF 595 (nI (24 * s + p)) (nI v) σ = some (crq (Mm.gi σ) s p v, σ) := by
  have ht := h1.1
  obtain ⟨a1, a2, a3, a4, a5, a6, a7⟩ := h1.2.2.2 p hp
  obtain ⟨q, hq, eq⟩ := i_in (n := 1000000) a5.1 a5.2 (by decide)
  obtain ⟨u, hu, eu⟩ := i_in (n := 2) a7.1 a7.2 (by decide)
  have hq10 : q / 100000 ≤ 10 := by omega
  have hb : inb (nI (24 * s + p)) 96 = true := (inb_iff (by omega)).mpr (by omega)
  unfold f_X12_corrected
  rw [if_pos hb, if_pos hb, ix_nI (by omega), eu, if_pos ((inb_iff (by omega)).mpr (by omega)), if_pos hb, eq, show (100000 : Int32) = nI 100000 from rfl, pk_div (by omega) (by omega) (by omega), i_lit 11, i_mul, nI_add, if_pos ((inb_iff (by omega)).mpr (by omega)), ix_nI (by omega), ix_nI (by omega)]
  unfold crq
  rw [eq, eu, ix_nI (by omega), ix_nI (by omega)]
